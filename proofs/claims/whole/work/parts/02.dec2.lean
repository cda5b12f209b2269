theorem dX9_tellWord_27 : decode cX9_tellWord 27 = .ok (.aload_n 0, 1) := by decide +kernel
theorem dX9_tellWord_28 : decode cX9_tellWord 28 = .ok (.iload 4, 2) := by decide +kernel
theorem dX9_tellWord_30 : decode cX9_tellWord 30 = .ok (.iaload, 1) := by decide +kernel
theorem dX9_tellWord_31 : decode cX9_tellWord 31 = .ok (.iadd, 1) := by decide +kernel
theorem dX9_tellWord_32 : decode cX9_tellWord 32 = .ok (.istore_n 3, 1) := by decide +kernel
theorem dX9_tellWord_33 : decode cX9_tellWord 33 = .ok (.iinc 4 1, 3) := by decide +kernel
theorem dX9_tellWord_36 : decode cX9_tellWord 36 = .ok (.goto (-31), 3) := by decide +kernel
theorem dX9_tellWord_39 : decode cX9_tellWord 39 = .ok (.aload_n 2, 1) := by decide +kernel
theorem dX9_tellWord_40 : decode cX9_tellWord 40 = .ok (.iload_n 1, 1) := by decide +kernel
theorem dX9_tellWord_41 : decode cX9_tellWord 41 = .ok (.iload_n 3, 1) := by decide +kernel
theorem dX9_tellWord_42 : decode cX9_tellWord 42 = .ok (.aload_n 0, 1) := by decide +kernel
theorem dX9_tellWord_43 : decode cX9_tellWord 43 = .ok (.iconst 0, 1) := by decide +kernel
theorem dX9_tellWord_44 : decode cX9_tellWord 44 = .ok (.iaload, 1) := by decide +kernel
theorem dX9_tellWord_45 : decode cX9_tellWord 45 = .ok (.invokevirtual 149, 3) := by decide +kernel
theorem dX9_tellWord_48 : decode cX9_tellWord 48 = .ok (.ireturn, 1) := by decide +kernel
theorem dX10_init_0 : decode cX10_init 0 = .ok (.aload_n 0, 1) := by decide +kernel
theorem dX10_init_1 : decode cX10_init 1 = .ok (.invokespecial 3, 3) := by decide +kernel
theorem dX10_init_4 : decode cX10_init 4 = .ok (.aload_n 0, 1) := by decide +kernel
theorem dX10_init_5 : decode cX10_init 5 = .ok (.bipush 6, 2) := by decide +kernel
theorem dX10_init_7 : decode cX10_init 7 = .ok (.newarray .int, 2) := by decide +kernel
theorem dX10_init_9 : decode cX10_init 9 = .ok (.putfield 11, 3) := by decide +kernel
theorem dX10_init_12 : decode cX10_init 12 = .ok (.aload_n 0, 1) := by decide +kernel
theorem dX10_init_13 : decode cX10_init 13 = .ok (.bipush 6, 2) := by decide +kernel
theorem dX10_init_15 : decode cX10_init 15 = .ok (.newarray .int, 2) := by decide +kernel
theorem dX10_init_17 : decode cX10_init 17 = .ok (.putfield 15, 3) := by decide +kernel
theorem dX10_init_20 : decode cX10_init 20 = .ok (.aload_n 0, 1) := by decide +kernel
theorem dX10_init_21 : decode cX10_init 21 = .ok (.bipush 24, 2) := by decide +kernel
theorem dX10_init_23 : decode cX10_init 23 = .ok (.newarray .int, 2) := by decide +kernel
theorem dX10_init_25 : decode cX10_init 25 = .ok (.putfield 18, 3) := by decide +kernel
theorem dX10_init_28 : decode cX10_init 28 = .ok (.aload_n 0, 1) := by decide +kernel
theorem dX10_init_29 : decode cX10_init 29 = .ok (.bipush 7, 2) := by decide +kernel
theorem dX10_init_31 : decode cX10_init 31 = .ok (.newarray .int, 2) := by decide +kernel
theorem dX10_init_33 : decode cX10_init 33 = .ok (.putfield 21, 3) := by decide +kernel
theorem dX10_init_36 : decode cX10_init 36 = .ok (.aload_n 0, 1) := by decide +kernel
theorem dX10_init_37 : decode cX10_init 37 = .ok (.bipush 7, 2) := by decide +kernel
theorem dX10_init_39 : decode cX10_init 39 = .ok (.newarray .int, 2) := by decide +kernel
theorem dX10_init_41 : decode cX10_init 41 = .ok (.putfield 24, 3) := by decide +kernel
theorem dX10_init_44 : decode cX10_init 44 = .ok (.return_, 1) := by decide +kernel
theorem dX10_bestWayOf_0 : decode cX10_bestWayOf 0 = .ok (.iload_n 1, 1) := by decide +kernel
theorem dX10_bestWayOf_1 : decode cX10_bestWayOf 1 = .ok (.iconst 0, 1) := by decide +kernel
theorem dX10_bestWayOf_2 : decode cX10_bestWayOf 2 = .ok (.iconst 5, 1) := by decide +kernel
theorem dX10_bestWayOf_3 : decode cX10_bestWayOf 3 = .ok (.invokestatic 27, 3) := by decide +kernel
theorem dX10_bestWayOf_6 : decode cX10_bestWayOf 6 = .ok (.ifCond .eq 12, 3) := by decide +kernel
theorem dX10_bestWayOf_9 : decode cX10_bestWayOf 9 = .ok (.aload_n 0, 1) := by decide +kernel
theorem dX10_bestWayOf_10 : decode cX10_bestWayOf 10 = .ok (.getfield 15, 3) := by decide +kernel
theorem dX10_bestWayOf_13 : decode cX10_bestWayOf 13 = .ok (.iload_n 1, 1) := by decide +kernel
theorem dX10_bestWayOf_14 : decode cX10_bestWayOf 14 = .ok (.iaload, 1) := by decide +kernel
theorem dX10_bestWayOf_15 : decode cX10_bestWayOf 15 = .ok (.goto 4, 3) := by decide +kernel
theorem dX10_bestWayOf_18 : decode cX10_bestWayOf 18 = .ok (.iconst (-1), 1) := by decide +kernel
theorem dX10_bestWayOf_19 : decode cX10_bestWayOf 19 = .ok (.ireturn, 1) := by decide +kernel
theorem dX10_search_0 : decode cX10_search 0 = .ok (.aload_n 1, 1) := by decide +kernel
theorem dX10_search_1 : decode cX10_search 1 = .ok (.getfield 31, 3) := by decide +kernel
theorem dX10_search_4 : decode cX10_search 4 = .ok (.bipush 6, 2) := by decide +kernel
theorem dX10_search_6 : decode cX10_search 6 = .ok (.invokestatic 37, 3) := by decide +kernel
theorem dX10_search_9 : decode cX10_search 9 = .ok (.istore_n 3, 1) := by decide +kernel
theorem dX10_search_10 : decode cX10_search 10 = .ok (.aload_n 0, 1) := by decide +kernel
theorem dX10_search_11 : decode cX10_search 11 = .ok (.aload_n 1, 1) := by decide +kernel
theorem dX10_search_12 : decode cX10_search 12 = .ok (.iload_n 3, 1) := by decide +kernel
theorem dX10_search_13 : decode cX10_search 13 = .ok (.invokevirtual 43, 3) := by decide +kernel
theorem dX10_search_16 : decode cX10_search 16 = .ok (.iconst 0, 1) := by decide +kernel
theorem dX10_search_17 : decode cX10_search 17 = .ok (.istore 4, 2) := by decide +kernel
theorem dX10_search_19 : decode cX10_search 19 = .ok (.iload 4, 2) := by decide +kernel
theorem dX10_search_21 : decode cX10_search 21 = .ok (.bipush 6, 2) := by decide +kernel
theorem dX10_search_23 : decode cX10_search 23 = .ok (.if_icmp .ge 17, 3) := by decide +kernel
theorem dX10_search_26 : decode cX10_search 26 = .ok (.aload_n 0, 1) := by decide +kernel
theorem dX10_search_27 : decode cX10_search 27 = .ok (.getfield 11, 3) := by decide +kernel
theorem dX10_search_30 : decode cX10_search 30 = .ok (.iload 4, 2) := by decide +kernel
theorem dX10_search_32 : decode cX10_search 32 = .ok (.iconst 0, 1) := by decide +kernel
theorem dX10_search_33 : decode cX10_search 33 = .ok (.iastore, 1) := by decide +kernel
theorem dX10_search_34 : decode cX10_search 34 = .ok (.iinc 4 1, 3) := by decide +kernel
theorem dX10_search_37 : decode cX10_search 37 = .ok (.goto (-18), 3) := by decide +kernel
theorem dX10_search_40 : decode cX10_search 40 = .ok (.iconst 0, 1) := by decide +kernel
theorem dX10_search_41 : decode cX10_search 41 = .ok (.istore 4, 2) := by decide +kernel
theorem dX10_search_43 : decode cX10_search 43 = .ok (.iconst 0, 1) := by decide +kernel
theorem dX10_search_44 : decode cX10_search 44 = .ok (.istore 5, 2) := by decide +kernel
theorem dX10_search_46 : decode cX10_search 46 = .ok (.iload 5, 2) := by decide +kernel
theorem dX10_search_48 : decode cX10_search 48 = .ok (.iconst 1, 1) := by decide +kernel
theorem dX10_search_49 : decode cX10_search 49 = .ok (.iconst 2, 1) := by decide +kernel
theorem dX10_search_50 : decode cX10_search 50 = .ok (.iload_n 3, 1) := by decide +kernel
theorem dX10_search_51 : decode cX10_search 51 = .ok (.imul, 1) := by decide +kernel
theorem dX10_search_52 : decode cX10_search 52 = .ok (.ishl, 1) := by decide +kernel
theorem dX10_search_53 : decode cX10_search 53 = .ok (.if_icmp .ge 82, 3) := by decide +kernel
theorem dX10_search_56 : decode cX10_search 56 = .ok (.aload_n 0, 1) := by decide +kernel
theorem dX10_search_57 : decode cX10_search 57 = .ok (.iload 4, 2) := by decide +kernel
theorem dX10_search_59 : decode cX10_search 59 = .ok (.iload_n 3, 1) := by decide +kernel
theorem dX10_search_60 : decode cX10_search 60 = .ok (.invokevirtual 47, 3) := by decide +kernel
theorem dX10_search_63 : decode cX10_search 63 = .ok (.aload_n 0, 1) := by decide +kernel
theorem dX10_search_64 : decode cX10_search 64 = .ok (.getfield 24, 3) := by decide +kernel
theorem dX10_search_67 : decode cX10_search 67 = .ok (.iload_n 3, 1) := by decide +kernel
theorem dX10_search_68 : decode cX10_search 68 = .ok (.iaload, 1) := by decide +kernel
theorem dX10_search_69 : decode cX10_search 69 = .ok (.istore 6, 2) := by decide +kernel
theorem dX10_search_71 : decode cX10_search 71 = .ok (.iload 5, 2) := by decide +kernel
theorem dX10_search_73 : decode cX10_search 73 = .ok (.ifCond .eq 28, 3) := by decide +kernel
theorem dX10_search_76 : decode cX10_search 76 = .ok (.iload_n 2, 1) := by decide +kernel
theorem dX10_search_77 : decode cX10_search 77 = .ok (.ifCond .eq 15, 3) := by decide +kernel
theorem dX10_search_80 : decode cX10_search 80 = .ok (.iload 6, 2) := by decide +kernel
theorem dX10_search_82 : decode cX10_search 82 = .ok (.aload_n 0, 1) := by decide +kernel
theorem dX10_search_83 : decode cX10_search 83 = .ok (.getfield 51, 3) := by decide +kernel
theorem dX10_search_86 : decode cX10_search 86 = .ok (.if_icmp .ge 36, 3) := by decide +kernel
theorem dX10_search_89 : decode cX10_search 89 = .ok (.goto 12, 3) := by decide +kernel
theorem dX10_search_92 : decode cX10_search 92 = .ok (.iload 6, 2) := by decide +kernel
theorem dX10_search_94 : decode cX10_search 94 = .ok (.aload_n 0, 1) := by decide +kernel
theorem dX10_search_95 : decode cX10_search 95 = .ok (.getfield 51, 3) := by decide +kernel
theorem dX10_search_98 : decode cX10_search 98 = .ok (.if_icmp .le 24, 3) := by decide +kernel
theorem dX10_search_101 : decode cX10_search 101 = .ok (.aload_n 0, 1) := by decide +kernel
theorem dX10_search_102 : decode cX10_search 102 = .ok (.iload 6, 2) := by decide +kernel
theorem dX10_search_104 : decode cX10_search 104 = .ok (.putfield 51, 3) := by decide +kernel
theorem dX10_search_107 : decode cX10_search 107 = .ok (.aload_n 0, 1) := by decide +kernel
theorem dX10_search_108 : decode cX10_search 108 = .ok (.getfield 11, 3) := by decide +kernel
theorem dX10_search_111 : decode cX10_search 111 = .ok (.iconst 0, 1) := by decide +kernel
theorem dX10_search_112 : decode cX10_search 112 = .ok (.aload_n 0, 1) := by decide +kernel
theorem dX10_search_113 : decode cX10_search 113 = .ok (.getfield 15, 3) := by decide +kernel
theorem dX10_search_116 : decode cX10_search 116 = .ok (.iconst 0, 1) := by decide +kernel
theorem dX10_search_117 : decode cX10_search 117 = .ok (.bipush 6, 2) := by decide +kernel
theorem dX10_search_119 : decode cX10_search 119 = .ok (.invokestatic 54, 3) := by decide +kernel
theorem dX10_search_122 : decode cX10_search 122 = .ok (.aload_n 0, 1) := by decide +kernel
theorem dX10_search_123 : decode cX10_search 123 = .ok (.iload_n 3, 1) := by decide +kernel
theorem dX10_search_124 : decode cX10_search 124 = .ok (.invokevirtual 60, 3) := by decide +kernel
theorem dX10_search_127 : decode cX10_search 127 = .ok (.istore 4, 2) := by decide +kernel
theorem dX10_search_129 : decode cX10_search 129 = .ok (.iinc 5 1, 3) := by decide +kernel
theorem dX10_search_132 : decode cX10_search 132 = .ok (.goto (-86), 3) := by decide +kernel
theorem dX10_search_135 : decode cX10_search 135 = .ok (.return_, 1) := by decide +kernel
theorem dX10_findReaders_0 : decode cX10_findReaders 0 = .ok (.iconst 0, 1) := by decide +kernel
theorem dX10_findReaders_1 : decode cX10_findReaders 1 = .ok (.istore_n 3, 1) := by decide +kernel
theorem dX10_findReaders_2 : decode cX10_findReaders 2 = .ok (.iload_n 3, 1) := by decide +kernel
theorem dX10_findReaders_3 : decode cX10_findReaders 3 = .ok (.bipush 24, 2) := by decide +kernel
theorem dX10_findReaders_5 : decode cX10_findReaders 5 = .ok (.if_icmp .ge 16, 3) := by decide +kernel
theorem dX10_findReaders_8 : decode cX10_findReaders 8 = .ok (.aload_n 0, 1) := by decide +kernel
theorem dX10_findReaders_9 : decode cX10_findReaders 9 = .ok (.getfield 18, 3) := by decide +kernel
theorem dX10_findReaders_12 : decode cX10_findReaders 12 = .ok (.iload_n 3, 1) := by decide +kernel
theorem dX10_findReaders_13 : decode cX10_findReaders 13 = .ok (.iconst 0, 1) := by decide +kernel
theorem dX10_findReaders_14 : decode cX10_findReaders 14 = .ok (.iastore, 1) := by decide +kernel
theorem dX10_findReaders_15 : decode cX10_findReaders 15 = .ok (.iinc 3 1, 3) := by decide +kernel
theorem dX10_findReaders_18 : decode cX10_findReaders 18 = .ok (.goto (-16), 3) := by decide +kernel
theorem dX10_findReaders_21 : decode cX10_findReaders 21 = .ok (.iconst 0, 1) := by decide +kernel
theorem dX10_findReaders_22 : decode cX10_findReaders 22 = .ok (.istore_n 3, 1) := by decide +kernel
theorem dX10_findReaders_23 : decode cX10_findReaders 23 = .ok (.iload_n 3, 1) := by decide +kernel
theorem dX10_findReaders_24 : decode cX10_findReaders 24 = .ok (.iload_n 2, 1) := by decide +kernel
theorem dX10_findReaders_25 : decode cX10_findReaders 25 = .ok (.if_icmp .ge 42, 3) := by decide +kernel
theorem dX10_findReaders_28 : decode cX10_findReaders 28 = .ok (.iconst 0, 1) := by decide +kernel
theorem dX10_findReaders_29 : decode cX10_findReaders 29 = .ok (.istore 4, 2) := by decide +kernel
theorem dX10_findReaders_31 : decode cX10_findReaders 31 = .ok (.iload 4, 2) := by decide +kernel
theorem dX10_findReaders_33 : decode cX10_findReaders 33 = .ok (.iload_n 3, 1) := by decide +kernel
theorem dX10_findReaders_34 : decode cX10_findReaders 34 = .ok (.if_icmp .ge 27, 3) := by decide +kernel
theorem dX10_findReaders_37 : decode cX10_findReaders 37 = .ok (.aload_n 1, 1) := by decide +kernel
theorem dX10_findReaders_38 : decode cX10_findReaders 38 = .ok (.iload_n 3, 1) := by decide +kernel
theorem dX10_findReaders_39 : decode cX10_findReaders 39 = .ok (.iload 4, 2) := by decide +kernel
theorem dX10_findReaders_41 : decode cX10_findReaders 41 = .ok (.invokevirtual 64, 3) := by decide +kernel
theorem dX10_findReaders_44 : decode cX10_findReaders 44 = .ok (.ifCond .eq 11, 3) := by decide +kernel
theorem dX10_findReaders_47 : decode cX10_findReaders 47 = .ok (.aload_n 0, 1) := by decide +kernel
theorem dX10_findReaders_48 : decode cX10_findReaders 48 = .ok (.aload_n 1, 1) := by decide +kernel
theorem dX10_findReaders_49 : decode cX10_findReaders 49 = .ok (.iload_n 3, 1) := by decide +kernel
theorem dX10_findReaders_50 : decode cX10_findReaders 50 = .ok (.iload 4, 2) := by decide +kernel
theorem dX10_findReaders_52 : decode cX10_findReaders 52 = .ok (.invokevirtual 68, 3) := by decide +kernel
theorem dX10_findReaders_55 : decode cX10_findReaders 55 = .ok (.iinc 4 1, 3) := by decide +kernel
theorem dX10_findReaders_58 : decode cX10_findReaders 58 = .ok (.goto (-27), 3) := by decide +kernel
theorem dX10_findReaders_61 : decode cX10_findReaders 61 = .ok (.iinc 3 1, 3) := by decide +kernel
theorem dX10_findReaders_64 : decode cX10_findReaders 64 = .ok (.goto (-41), 3) := by decide +kernel
theorem dX10_findReaders_67 : decode cX10_findReaders 67 = .ok (.return_, 1) := by decide +kernel
theorem dX10_joinWays_0 : decode cX10_joinWays 0 = .ok (.iconst 0, 1) := by decide +kernel
theorem dX10_joinWays_1 : decode cX10_joinWays 1 = .ok (.istore 4, 2) := by decide +kernel
theorem dX10_joinWays_3 : decode cX10_joinWays 3 = .ok (.iload 4, 2) := by decide +kernel
theorem dX10_joinWays_5 : decode cX10_joinWays 5 = .ok (.iconst 4, 1) := by decide +kernel
theorem dX10_joinWays_6 : decode cX10_joinWays 6 = .ok (.if_icmp .ge 59, 3) := by decide +kernel
theorem dX10_joinWays_9 : decode cX10_joinWays 9 = .ok (.iconst 0, 1) := by decide +kernel
theorem dX10_joinWays_10 : decode cX10_joinWays 10 = .ok (.istore 5, 2) := by decide +kernel
theorem dX10_joinWays_12 : decode cX10_joinWays 12 = .ok (.iload 5, 2) := by decide +kernel
theorem dX10_joinWays_14 : decode cX10_joinWays 14 = .ok (.iconst 4, 1) := by decide +kernel
theorem dX10_joinWays_15 : decode cX10_joinWays 15 = .ok (.if_icmp .ge 44, 3) := by decide +kernel
theorem dX10_joinWays_18 : decode cX10_joinWays 18 = .ok (.aload_n 1, 1) := by decide +kernel
theorem dX10_joinWays_19 : decode cX10_joinWays 19 = .ok (.iload_n 2, 1) := by decide +kernel
theorem dX10_joinWays_20 : decode cX10_joinWays 20 = .ok (.iload 4, 2) := by decide +kernel
theorem dX10_joinWays_22 : decode cX10_joinWays 22 = .ok (.iload_n 3, 1) := by decide +kernel
theorem dX10_joinWays_23 : decode cX10_joinWays 23 = .ok (.iload 5, 2) := by decide +kernel
theorem dX10_joinWays_25 : decode cX10_joinWays 25 = .ok (.invokevirtual 72, 3) := by decide +kernel
theorem dX10_joinWays_28 : decode cX10_joinWays 28 = .ok (.ifCond .eq 25, 3) := by decide +kernel
theorem dX10_joinWays_31 : decode cX10_joinWays 31 = .ok (.aload_n 0, 1) := by decide +kernel
theorem dX10_joinWays_32 : decode cX10_joinWays 32 = .ok (.getfield 18, 3) := by decide +kernel
theorem dX10_joinWays_35 : decode cX10_joinWays 35 = .ok (.iload_n 2, 1) := by decide +kernel
theorem dX10_joinWays_36 : decode cX10_joinWays 36 = .ok (.iconst 4, 1) := by decide +kernel
theorem dX10_joinWays_37 : decode cX10_joinWays 37 = .ok (.imul, 1) := by decide +kernel
theorem dX10_joinWays_38 : decode cX10_joinWays 38 = .ok (.iload 4, 2) := by decide +kernel
theorem dX10_joinWays_40 : decode cX10_joinWays 40 = .ok (.iadd, 1) := by decide +kernel
theorem dX10_joinWays_41 : decode cX10_joinWays 41 = .ok (.dup2, 1) := by decide +kernel
theorem dX10_joinWays_42 : decode cX10_joinWays 42 = .ok (.iaload, 1) := by decide +kernel
theorem dX10_joinWays_43 : decode cX10_joinWays 43 = .ok (.iconst 1, 1) := by decide +kernel
theorem dX10_joinWays_44 : decode cX10_joinWays 44 = .ok (.iload_n 3, 1) := by decide +kernel
theorem dX10_joinWays_45 : decode cX10_joinWays 45 = .ok (.iconst 4, 1) := by decide +kernel
theorem dX10_joinWays_46 : decode cX10_joinWays 46 = .ok (.imul, 1) := by decide +kernel
theorem dX10_joinWays_47 : decode cX10_joinWays 47 = .ok (.iload 5, 2) := by decide +kernel
theorem dX10_joinWays_49 : decode cX10_joinWays 49 = .ok (.iadd, 1) := by decide +kernel
theorem dX10_joinWays_50 : decode cX10_joinWays 50 = .ok (.ishl, 1) := by decide +kernel
theorem dX10_joinWays_51 : decode cX10_joinWays 51 = .ok (.ior, 1) := by decide +kernel
theorem dX10_joinWays_52 : decode cX10_joinWays 52 = .ok (.iastore, 1) := by decide +kernel
theorem dX10_joinWays_53 : decode cX10_joinWays 53 = .ok (.iinc 5 1, 3) := by decide +kernel
theorem dX10_joinWays_56 : decode cX10_joinWays 56 = .ok (.goto (-44), 3) := by decide +kernel
theorem dX10_joinWays_59 : decode cX10_joinWays 59 = .ok (.iinc 4 1, 3) := by decide +kernel
theorem dX10_joinWays_62 : decode cX10_joinWays 62 = .ok (.goto (-59), 3) := by decide +kernel
theorem dX10_joinWays_65 : decode cX10_joinWays 65 = .ok (.return_, 1) := by decide +kernel
theorem dX10_countPairs_0 : decode cX10_countPairs 0 = .ok (.iload_n 1, 1) := by decide +kernel
theorem dX10_countPairs_1 : decode cX10_countPairs 1 = .ok (.istore_n 3, 1) := by decide +kernel
theorem dX10_countPairs_2 : decode cX10_countPairs 2 = .ok (.iload_n 3, 1) := by decide +kernel
theorem dX10_countPairs_3 : decode cX10_countPairs 3 = .ok (.iload_n 2, 1) := by decide +kernel
theorem dX10_countPairs_4 : decode cX10_countPairs 4 = .ok (.if_icmp .ge 76, 3) := by decide +kernel
theorem dX10_countPairs_7 : decode cX10_countPairs 7 = .ok (.aload_n 0, 1) := by decide +kernel
theorem dX10_countPairs_8 : decode cX10_countPairs 8 = .ok (.getfield 21, 3) := by decide +kernel
theorem dX10_countPairs_11 : decode cX10_countPairs 11 = .ok (.iload_n 3, 1) := by decide +kernel
theorem dX10_countPairs_12 : decode cX10_countPairs 12 = .ok (.iconst 1, 1) := by decide +kernel
theorem dX10_countPairs_13 : decode cX10_countPairs 13 = .ok (.iadd, 1) := by decide +kernel
theorem dX10_countPairs_14 : decode cX10_countPairs 14 = .ok (.aload_n 0, 1) := by decide +kernel
theorem dX10_countPairs_15 : decode cX10_countPairs 15 = .ok (.getfield 21, 3) := by decide +kernel
theorem dX10_countPairs_18 : decode cX10_countPairs 18 = .ok (.iload_n 3, 1) := by decide +kernel
theorem dX10_countPairs_19 : decode cX10_countPairs 19 = .ok (.iaload, 1) := by decide +kernel
theorem dX10_countPairs_20 : decode cX10_countPairs 20 = .ok (.iconst 1, 1) := by decide +kernel
theorem dX10_countPairs_21 : decode cX10_countPairs 21 = .ok (.iload_n 3, 1) := by decide +kernel
theorem dX10_countPairs_22 : decode cX10_countPairs 22 = .ok (.iconst 4, 1) := by decide +kernel
theorem dX10_countPairs_23 : decode cX10_countPairs 23 = .ok (.imul, 1) := by decide +kernel
theorem dX10_countPairs_24 : decode cX10_countPairs 24 = .ok (.aload_n 0, 1) := by decide +kernel
theorem dX10_countPairs_25 : decode cX10_countPairs 25 = .ok (.getfield 11, 3) := by decide +kernel
theorem dX10_countPairs_28 : decode cX10_countPairs 28 = .ok (.iload_n 3, 1) := by decide +kernel
theorem dX10_countPairs_29 : decode cX10_countPairs 29 = .ok (.iaload, 1) := by decide +kernel
theorem dX10_countPairs_30 : decode cX10_countPairs 30 = .ok (.iadd, 1) := by decide +kernel
theorem dX10_countPairs_31 : decode cX10_countPairs 31 = .ok (.ishl, 1) := by decide +kernel
theorem dX10_countPairs_32 : decode cX10_countPairs 32 = .ok (.ior, 1) := by decide +kernel
theorem dX10_countPairs_33 : decode cX10_countPairs 33 = .ok (.iastore, 1) := by decide +kernel
theorem dX10_countPairs_34 : decode cX10_countPairs 34 = .ok (.aload_n 0, 1) := by decide +kernel
theorem dX10_countPairs_35 : decode cX10_countPairs 35 = .ok (.getfield 24, 3) := by decide +kernel
theorem dX10_countPairs_38 : decode cX10_countPairs 38 = .ok (.iload_n 3, 1) := by decide +kernel
theorem dX10_countPairs_39 : decode cX10_countPairs 39 = .ok (.iconst 1, 1) := by decide +kernel
theorem dX10_countPairs_40 : decode cX10_countPairs 40 = .ok (.iadd, 1) := by decide +kernel
theorem dX10_countPairs_41 : decode cX10_countPairs 41 = .ok (.aload_n 0, 1) := by decide +kernel
theorem dX10_countPairs_42 : decode cX10_countPairs 42 = .ok (.getfield 24, 3) := by decide +kernel
theorem dX10_countPairs_45 : decode cX10_countPairs 45 = .ok (.iload_n 3, 1) := by decide +kernel
theorem dX10_countPairs_46 : decode cX10_countPairs 46 = .ok (.iaload, 1) := by decide +kernel
theorem dX10_countPairs_47 : decode cX10_countPairs 47 = .ok (.aload_n 0, 1) := by decide +kernel
theorem dX10_countPairs_48 : decode cX10_countPairs 48 = .ok (.getfield 18, 3) := by decide +kernel
theorem dX10_countPairs_51 : decode cX10_countPairs 51 = .ok (.iload_n 3, 1) := by decide +kernel
theorem dX10_countPairs_52 : decode cX10_countPairs 52 = .ok (.iconst 4, 1) := by decide +kernel
theorem dX10_countPairs_53 : decode cX10_countPairs 53 = .ok (.imul, 1) := by decide +kernel
theorem dX10_countPairs_54 : decode cX10_countPairs 54 = .ok (.aload_n 0, 1) := by decide +kernel
theorem dX10_countPairs_55 : decode cX10_countPairs 55 = .ok (.getfield 11, 3) := by decide +kernel
theorem dX10_countPairs_58 : decode cX10_countPairs 58 = .ok (.iload_n 3, 1) := by decide +kernel
theorem dX10_countPairs_59 : decode cX10_countPairs 59 = .ok (.iaload, 1) := by decide +kernel
theorem dX10_countPairs_60 : decode cX10_countPairs 60 = .ok (.iadd, 1) := by decide +kernel
theorem dX10_countPairs_61 : decode cX10_countPairs 61 = .ok (.iaload, 1) := by decide +kernel
theorem dX10_countPairs_62 : decode cX10_countPairs 62 = .ok (.aload_n 0, 1) := by decide +kernel
theorem dX10_countPairs_63 : decode cX10_countPairs 63 = .ok (.getfield 21, 3) := by decide +kernel
theorem dX10_countPairs_66 : decode cX10_countPairs 66 = .ok (.iload_n 3, 1) := by decide +kernel
theorem dX10_countPairs_67 : decode cX10_countPairs 67 = .ok (.iaload, 1) := by decide +kernel
theorem dX10_countPairs_68 : decode cX10_countPairs 68 = .ok (.iand, 1) := by decide +kernel
theorem dX10_countPairs_69 : decode cX10_countPairs 69 = .ok (.invokestatic 76, 3) := by decide +kernel
theorem dX10_countPairs_72 : decode cX10_countPairs 72 = .ok (.iadd, 1) := by decide +kernel
theorem dX10_countPairs_73 : decode cX10_countPairs 73 = .ok (.iastore, 1) := by decide +kernel
theorem dX10_countPairs_74 : decode cX10_countPairs 74 = .ok (.iinc 3 1, 3) := by decide +kernel
theorem dX10_countPairs_77 : decode cX10_countPairs 77 = .ok (.goto (-75), 3) := by decide +kernel
theorem dX10_countPairs_80 : decode cX10_countPairs 80 = .ok (.return_, 1) := by decide +kernel
theorem dX10_turnToNext_0 : decode cX10_turnToNext 0 = .ok (.iload_n 1, 1) := by decide +kernel
theorem dX10_turnToNext_1 : decode cX10_turnToNext 1 = .ok (.iconst 1, 1) := by decide +kernel
theorem dX10_turnToNext_2 : decode cX10_turnToNext 2 = .ok (.isub, 1) := by decide +kernel
theorem dX10_turnToNext_3 : decode cX10_turnToNext 3 = .ok (.istore_n 2, 1) := by decide +kernel
theorem dX10_turnToNext_4 : decode cX10_turnToNext 4 = .ok (.iload_n 2, 1) := by decide +kernel
theorem dX10_turnToNext_5 : decode cX10_turnToNext 5 = .ok (.ifCond .lt 38, 3) := by decide +kernel
theorem dX10_turnToNext_8 : decode cX10_turnToNext 8 = .ok (.aload_n 0, 1) := by decide +kernel
theorem dX10_turnToNext_9 : decode cX10_turnToNext 9 = .ok (.getfield 11, 3) := by decide +kernel
theorem dX10_turnToNext_12 : decode cX10_turnToNext 12 = .ok (.iload_n 2, 1) := by decide +kernel
theorem dX10_turnToNext_13 : decode cX10_turnToNext 13 = .ok (.iaload, 1) := by decide +kernel
theorem dX10_turnToNext_14 : decode cX10_turnToNext 14 = .ok (.iconst 3, 1) := by decide +kernel
theorem dX10_turnToNext_15 : decode cX10_turnToNext 15 = .ok (.if_icmp .ge 15, 3) := by decide +kernel
theorem dX10_turnToNext_18 : decode cX10_turnToNext 18 = .ok (.aload_n 0, 1) := by decide +kernel
theorem dX10_turnToNext_19 : decode cX10_turnToNext 19 = .ok (.getfield 11, 3) := by decide +kernel
theorem dX10_turnToNext_22 : decode cX10_turnToNext 22 = .ok (.iload_n 2, 1) := by decide +kernel
theorem dX10_turnToNext_23 : decode cX10_turnToNext 23 = .ok (.dup2, 1) := by decide +kernel
theorem dX10_turnToNext_24 : decode cX10_turnToNext 24 = .ok (.iaload, 1) := by decide +kernel
theorem dX10_turnToNext_25 : decode cX10_turnToNext 25 = .ok (.iconst 1, 1) := by decide +kernel
theorem dX10_turnToNext_26 : decode cX10_turnToNext 26 = .ok (.iadd, 1) := by decide +kernel
theorem dX10_turnToNext_27 : decode cX10_turnToNext 27 = .ok (.iastore, 1) := by decide +kernel
theorem dX10_turnToNext_28 : decode cX10_turnToNext 28 = .ok (.iload_n 2, 1) := by decide +kernel
theorem dX10_turnToNext_29 : decode cX10_turnToNext 29 = .ok (.ireturn, 1) := by decide +kernel
theorem dX10_turnToNext_30 : decode cX10_turnToNext 30 = .ok (.aload_n 0, 1) := by decide +kernel
theorem dX10_turnToNext_31 : decode cX10_turnToNext 31 = .ok (.getfield 11, 3) := by decide +kernel
theorem dX10_turnToNext_34 : decode cX10_turnToNext 34 = .ok (.iload_n 2, 1) := by decide +kernel
theorem dX10_turnToNext_35 : decode cX10_turnToNext 35 = .ok (.iconst 0, 1) := by decide +kernel
theorem dX10_turnToNext_36 : decode cX10_turnToNext 36 = .ok (.iastore, 1) := by decide +kernel
theorem dX10_turnToNext_37 : decode cX10_turnToNext 37 = .ok (.iinc 2 (-1), 3) := by decide +kernel
theorem dX10_turnToNext_40 : decode cX10_turnToNext 40 = .ok (.goto (-36), 3) := by decide +kernel
theorem dX10_turnToNext_43 : decode cX10_turnToNext 43 = .ok (.iconst 0, 1) := by decide +kernel
theorem dX10_turnToNext_44 : decode cX10_turnToNext 44 = .ok (.ireturn, 1) := by decide +kernel
theorem dX11_init_0 : decode cX11_init 0 = .ok (.aload_n 0, 1) := by decide +kernel
theorem dX11_init_1 : decode cX11_init 1 = .ok (.invokespecial 1, 3) := by decide +kernel
theorem dX11_init_4 : decode cX11_init 4 = .ok (.aload_n 0, 1) := by decide +kernel
theorem dX11_init_5 : decode cX11_init 5 = .ok (.new 7, 3) := by decide +kernel
theorem dX11_init_8 : decode cX11_init 8 = .ok (.dup, 1) := by decide +kernel
theorem dX11_init_9 : decode cX11_init 9 = .ok (.invokespecial 9, 3) := by decide +kernel
theorem dX11_init_12 : decode cX11_init 12 = .ok (.putfield 10, 3) := by decide +kernel
theorem dX11_init_15 : decode cX11_init 15 = .ok (.aload_n 0, 1) := by decide +kernel
theorem dX11_init_16 : decode cX11_init 16 = .ok (.new 7, 3) := by decide +kernel
theorem dX11_init_19 : decode cX11_init 19 = .ok (.dup, 1) := by decide +kernel
theorem dX11_init_20 : decode cX11_init 20 = .ok (.invokespecial 9, 3) := by decide +kernel
theorem dX11_init_23 : decode cX11_init 23 = .ok (.putfield 16, 3) := by decide +kernel
theorem dX11_init_26 : decode cX11_init 26 = .ok (.aload_n 0, 1) := by decide +kernel
theorem dX11_init_27 : decode cX11_init 27 = .ok (.new 7, 3) := by decide +kernel
theorem dX11_init_30 : decode cX11_init 30 = .ok (.dup, 1) := by decide +kernel
theorem dX11_init_31 : decode cX11_init 31 = .ok (.invokespecial 9, 3) := by decide +kernel
theorem dX11_init_34 : decode cX11_init 34 = .ok (.putfield 19, 3) := by decide +kernel
theorem dX11_init_37 : decode cX11_init 37 = .ok (.aload_n 0, 1) := by decide +kernel
theorem dX11_init_38 : decode cX11_init 38 = .ok (.new 7, 3) := by decide +kernel
theorem dX11_init_41 : decode cX11_init 41 = .ok (.dup, 1) := by decide +kernel
theorem dX11_init_42 : decode cX11_init 42 = .ok (.invokespecial 9, 3) := by decide +kernel
theorem dX11_init_45 : decode cX11_init 45 = .ok (.putfield 22, 3) := by decide +kernel
theorem dX11_init_48 : decode cX11_init 48 = .ok (.aload_n 0, 1) := by decide +kernel
theorem dX11_init_49 : decode cX11_init 49 = .ok (.new 25, 3) := by decide +kernel
theorem dX11_init_52 : decode cX11_init 52 = .ok (.dup, 1) := by decide +kernel
theorem dX11_init_53 : decode cX11_init 53 = .ok (.invokespecial 27, 3) := by decide +kernel
theorem dX11_init_56 : decode cX11_init 56 = .ok (.putfield 28, 3) := by decide +kernel
theorem dX11_init_59 : decode cX11_init 59 = .ok (.aload_n 0, 1) := by decide +kernel
theorem dX11_init_60 : decode cX11_init 60 = .ok (.new 25, 3) := by decide +kernel
theorem dX11_init_63 : decode cX11_init 63 = .ok (.dup, 1) := by decide +kernel
theorem dX11_init_64 : decode cX11_init 64 = .ok (.invokespecial 27, 3) := by decide +kernel
theorem dX11_init_67 : decode cX11_init 67 = .ok (.putfield 32, 3) := by decide +kernel
theorem dX11_init_70 : decode cX11_init 70 = .ok (.aload_n 0, 1) := by decide +kernel
theorem dX11_init_71 : decode cX11_init 71 = .ok (.new 35, 3) := by decide +kernel
theorem dX11_init_74 : decode cX11_init 74 = .ok (.dup, 1) := by decide +kernel
theorem dX11_init_75 : decode cX11_init 75 = .ok (.invokespecial 37, 3) := by decide +kernel
theorem dX11_init_78 : decode cX11_init 78 = .ok (.putfield 38, 3) := by decide +kernel
theorem dX11_init_81 : decode cX11_init 81 = .ok (.aload_n 0, 1) := by decide +kernel
theorem dX11_init_82 : decode cX11_init 82 = .ok (.new 42, 3) := by decide +kernel
theorem dX11_init_85 : decode cX11_init 85 = .ok (.dup, 1) := by decide +kernel
theorem dX11_init_86 : decode cX11_init 86 = .ok (.invokespecial 44, 3) := by decide +kernel
theorem dX11_init_89 : decode cX11_init 89 = .ok (.putfield 45, 3) := by decide +kernel
theorem dX11_init_92 : decode cX11_init 92 = .ok (.aload_n 0, 1) := by decide +kernel
theorem dX11_init_93 : decode cX11_init 93 = .ok (.new 49, 3) := by decide +kernel
theorem dX11_init_96 : decode cX11_init 96 = .ok (.dup, 1) := by decide +kernel
theorem dX11_init_97 : decode cX11_init 97 = .ok (.invokespecial 51, 3) := by decide +kernel
theorem dX11_init_100 : decode cX11_init 100 = .ok (.putfield 52, 3) := by decide +kernel
theorem dX11_init_103 : decode cX11_init 103 = .ok (.aload_n 0, 1) := by decide +kernel
theorem dX11_init_104 : decode cX11_init 104 = .ok (.new 56, 3) := by decide +kernel
theorem dX11_init_107 : decode cX11_init 107 = .ok (.dup, 1) := by decide +kernel
theorem dX11_init_108 : decode cX11_init 108 = .ok (.invokespecial 58, 3) := by decide +kernel
theorem dX11_init_111 : decode cX11_init 111 = .ok (.putfield 59, 3) := by decide +kernel
theorem dX11_init_114 : decode cX11_init 114 = .ok (.aload_n 0, 1) := by decide +kernel
theorem dX11_init_115 : decode cX11_init 115 = .ok (.new 63, 3) := by decide +kernel
theorem dX11_init_118 : decode cX11_init 118 = .ok (.dup, 1) := by decide +kernel
theorem dX11_init_119 : decode cX11_init 119 = .ok (.invokespecial 65, 3) := by decide +kernel
theorem dX11_init_122 : decode cX11_init 122 = .ok (.putfield 66, 3) := by decide +kernel
theorem dX11_init_125 : decode cX11_init 125 = .ok (.return_, 1) := by decide +kernel
theorem dX11_pillar_0 : decode cX11_pillar 0 = .ok (.aload_n 0, 1) := by decide +kernel
theorem dX11_pillar_1 : decode cX11_pillar 1 = .ok (.getfield 10, 3) := by decide +kernel
theorem dX11_pillar_4 : decode cX11_pillar 4 = .ok (.getfield 70, 3) := by decide +kernel
theorem dX11_pillar_7 : decode cX11_pillar 7 = .ok (.iload_n 1, 1) := by decide +kernel
theorem dX11_pillar_8 : decode cX11_pillar 8 = .ok (.invokevirtual 74, 3) := by decide +kernel
theorem dX11_pillar_11 : decode cX11_pillar 11 = .ok (.ireturn, 1) := by decide +kernel
theorem dX11_weaver_0 : decode cX11_weaver 0 = .ok (.aload_n 0, 1) := by decide +kernel
theorem dX11_weaver_1 : decode cX11_weaver 1 = .ok (.getfield 10, 3) := by decide +kernel
theorem dX11_weaver_4 : decode cX11_weaver 4 = .ok (.getfield 70, 3) := by decide +kernel
theorem dX11_weaver_7 : decode cX11_weaver 7 = .ok (.iload_n 1, 1) := by decide +kernel
theorem dX11_weaver_8 : decode cX11_weaver 8 = .ok (.iload_n 2, 1) := by decide +kernel
theorem dX11_weaver_9 : decode cX11_weaver 9 = .ok (.invokevirtual 80, 3) := by decide +kernel
theorem dX11_weaver_12 : decode cX11_weaver 12 = .ok (.ireturn, 1) := by decide +kernel
theorem dX11_face_0 : decode cX11_face 0 = .ok (.aload_n 0, 1) := by decide +kernel
theorem dX11_face_1 : decode cX11_face 1 = .ok (.getfield 10, 3) := by decide +kernel
theorem dX11_face_4 : decode cX11_face 4 = .ok (.getfield 70, 3) := by decide +kernel
theorem dX11_face_7 : decode cX11_face 7 = .ok (.iload_n 1, 1) := by decide +kernel
theorem dX11_face_8 : decode cX11_face 8 = .ok (.iload_n 2, 1) := by decide +kernel
theorem dX11_face_9 : decode cX11_face 9 = .ok (.invokevirtual 84, 3) := by decide +kernel
theorem dX11_face_12 : decode cX11_face 12 = .ok (.ireturn, 1) := by decide +kernel
theorem dX11_free_0 : decode cX11_free 0 = .ok (.aload_n 0, 1) := by decide +kernel
theorem dX11_free_1 : decode cX11_free 1 = .ok (.getfield 10, 3) := by decide +kernel
theorem dX11_free_4 : decode cX11_free 4 = .ok (.getfield 70, 3) := by decide +kernel
theorem dX11_free_7 : decode cX11_free 7 = .ok (.iload_n 1, 1) := by decide +kernel
theorem dX11_free_8 : decode cX11_free 8 = .ok (.iload_n 2, 1) := by decide +kernel
theorem dX11_free_9 : decode cX11_free 9 = .ok (.iload_n 3, 1) := by decide +kernel
theorem dX11_free_10 : decode cX11_free 10 = .ok (.iload 4, 2) := by decide +kernel
theorem dX11_free_12 : decode cX11_free 12 = .ok (.invokevirtual 87, 3) := by decide +kernel
theorem dX11_free_15 : decode cX11_free 15 = .ok (.ireturn, 1) := by decide +kernel
theorem dX11_far_0 : decode cX11_far 0 = .ok (.aload_n 0, 1) := by decide +kernel
theorem dX11_far_1 : decode cX11_far 1 = .ok (.getfield 10, 3) := by decide +kernel
theorem dX11_far_4 : decode cX11_far 4 = .ok (.getfield 70, 3) := by decide +kernel
theorem dX11_far_7 : decode cX11_far 7 = .ok (.iload_n 1, 1) := by decide +kernel
theorem dX11_far_8 : decode cX11_far 8 = .ok (.iload_n 2, 1) := by decide +kernel
theorem dX11_far_9 : decode cX11_far 9 = .ok (.invokevirtual 91, 3) := by decide +kernel
theorem dX11_far_12 : decode cX11_far 12 = .ok (.ireturn, 1) := by decide +kernel
theorem dX11_sees_0 : decode cX11_sees 0 = .ok (.aload_n 0, 1) := by decide +kernel
theorem dX11_sees_1 : decode cX11_sees 1 = .ok (.getfield 10, 3) := by decide +kernel
theorem dX11_sees_4 : decode cX11_sees 4 = .ok (.getfield 70, 3) := by decide +kernel
theorem dX11_sees_7 : decode cX11_sees 7 = .ok (.iload_n 1, 1) := by decide +kernel
theorem dX11_sees_8 : decode cX11_sees 8 = .ok (.iload_n 2, 1) := by decide +kernel
theorem dX11_sees_9 : decode cX11_sees 9 = .ok (.invokevirtual 94, 3) := by decide +kernel
theorem dX11_sees_12 : decode cX11_sees 12 = .ok (.ifCond .eq 12, 3) := by decide +kernel
theorem dX11_sees_15 : decode cX11_sees 15 = .ok (.iload_n 3, 1) := by decide +kernel
theorem dX11_sees_16 : decode cX11_sees 16 = .ok (.iconst 0, 1) := by decide +kernel
theorem dX11_sees_17 : decode cX11_sees 17 = .ok (.iconst 1, 1) := by decide +kernel
theorem dX11_sees_18 : decode cX11_sees 18 = .ok (.invokestatic 98, 3) := by decide +kernel
theorem dX11_sees_21 : decode cX11_sees 21 = .ok (.ifCond .ne 6, 3) := by decide +kernel
theorem dX11_sees_24 : decode cX11_sees 24 = .ok (.bipush (-2), 2) := by decide +kernel
theorem dX11_sees_26 : decode cX11_sees 26 = .ok (.ireturn, 1) := by decide +kernel
theorem dX11_sees_27 : decode cX11_sees 27 = .ok (.aload_n 0, 1) := by decide +kernel
theorem dX11_sees_28 : decode cX11_sees 28 = .ok (.getfield 10, 3) := by decide +kernel
theorem dX11_sees_31 : decode cX11_sees 31 = .ok (.getfield 70, 3) := by decide +kernel
theorem dX11_sees_34 : decode cX11_sees 34 = .ok (.iload_n 1, 1) := by decide +kernel
theorem dX11_sees_35 : decode cX11_sees 35 = .ok (.iload_n 2, 1) := by decide +kernel
theorem dX11_sees_36 : decode cX11_sees 36 = .ok (.iload_n 3, 1) := by decide +kernel
theorem dX11_sees_37 : decode cX11_sees 37 = .ok (.invokevirtual 102, 3) := by decide +kernel
theorem dX11_sees_40 : decode cX11_sees 40 = .ok (.invokestatic 105, 3) := by decide +kernel
theorem dX11_sees_43 : decode cX11_sees 43 = .ok (.ireturn, 1) := by decide +kernel
theorem dX11_clear_0 : decode cX11_clear 0 = .ok (.aload_n 0, 1) := by decide +kernel
theorem dX11_clear_1 : decode cX11_clear 1 = .ok (.getfield 10, 3) := by decide +kernel
theorem dX11_clear_4 : decode cX11_clear 4 = .ok (.getfield 70, 3) := by decide +kernel
theorem dX11_clear_7 : decode cX11_clear 7 = .ok (.iload_n 1, 1) := by decide +kernel
theorem dX11_clear_8 : decode cX11_clear 8 = .ok (.iload_n 2, 1) := by decide +kernel
theorem dX11_clear_9 : decode cX11_clear 9 = .ok (.invokevirtual 94, 3) := by decide +kernel
theorem dX11_clear_12 : decode cX11_clear 12 = .ok (.ifCond .ne 6, 3) := by decide +kernel
theorem dX11_clear_15 : decode cX11_clear 15 = .ok (.bipush (-2), 2) := by decide +kernel
theorem dX11_clear_17 : decode cX11_clear 17 = .ok (.ireturn, 1) := by decide +kernel
theorem dX11_clear_18 : decode cX11_clear 18 = .ok (.aload_n 0, 1) := by decide +kernel
theorem dX11_clear_19 : decode cX11_clear 19 = .ok (.getfield 10, 3) := by decide +kernel
theorem dX11_clear_22 : decode cX11_clear 22 = .ok (.getfield 70, 3) := by decide +kernel
theorem dX11_clear_25 : decode cX11_clear 25 = .ok (.iload_n 1, 1) := by decide +kernel
theorem dX11_clear_26 : decode cX11_clear 26 = .ok (.iload_n 2, 1) := by decide +kernel
theorem dX11_clear_27 : decode cX11_clear 27 = .ok (.invokevirtual 109, 3) := by decide +kernel
theorem dX11_clear_30 : decode cX11_clear 30 = .ok (.invokestatic 105, 3) := by decide +kernel
theorem dX11_clear_33 : decode cX11_clear 33 = .ok (.ireturn, 1) := by decide +kernel
theorem dX11_knows_0 : decode cX11_knows 0 = .ok (.aload_n 0, 1) := by decide +kernel
theorem dX11_knows_1 : decode cX11_knows 1 = .ok (.iload_n 1, 1) := by decide +kernel
theorem dX11_knows_2 : decode cX11_knows 2 = .ok (.iload_n 2, 1) := by decide +kernel
theorem dX11_knows_3 : decode cX11_knows 3 = .ok (.iload_n 3, 1) := by decide +kernel
theorem dX11_knows_4 : decode cX11_knows 4 = .ok (.iload 4, 2) := by decide +kernel
theorem dX11_knows_6 : decode cX11_knows 6 = .ok (.invokevirtual 112, 3) := by decide +kernel
theorem dX11_knows_9 : decode cX11_knows 9 = .ok (.ifCond .ne 6, 3) := by decide +kernel
theorem dX11_knows_12 : decode cX11_knows 12 = .ok (.bipush (-10), 2) := by decide +kernel
theorem dX11_knows_14 : decode cX11_knows 14 = .ok (.ireturn, 1) := by decide +kernel
theorem dX11_knows_15 : decode cX11_knows 15 = .ok (.aload_n 0, 1) := by decide +kernel
theorem dX11_knows_16 : decode cX11_knows 16 = .ok (.getfield 28, 3) := by decide +kernel
theorem dX11_knows_19 : decode cX11_knows 19 = .ok (.aload_n 0, 1) := by decide +kernel
theorem dX11_knows_20 : decode cX11_knows 20 = .ok (.getfield 10, 3) := by decide +kernel
theorem dX11_knows_23 : decode cX11_knows 23 = .ok (.getfield 70, 3) := by decide +kernel
theorem dX11_knows_26 : decode cX11_knows 26 = .ok (.iload_n 1, 1) := by decide +kernel
theorem dX11_knows_27 : decode cX11_knows 27 = .ok (.iconst 0, 1) := by decide +kernel
theorem dX11_knows_28 : decode cX11_knows 28 = .ok (.iload_n 3, 1) := by decide +kernel
theorem dX11_knows_29 : decode cX11_knows 29 = .ok (.iload 4, 2) := by decide +kernel
theorem dX11_knows_31 : decode cX11_knows 31 = .ok (.invokevirtual 116, 3) := by decide +kernel
theorem dX11_knows_34 : decode cX11_knows 34 = .ok (.aload_n 0, 1) := by decide +kernel
theorem dX11_knows_35 : decode cX11_knows 35 = .ok (.getfield 28, 3) := by decide +kernel
theorem dX11_knows_38 : decode cX11_knows 38 = .ok (.getfield 120, 3) := by decide +kernel
theorem dX11_knows_41 : decode cX11_knows 41 = .ok (.iload_n 2, 1) := by decide +kernel
theorem dX11_knows_42 : decode cX11_knows 42 = .ok (.iaload, 1) := by decide +kernel
theorem dX11_knows_43 : decode cX11_knows 43 = .ok (.ireturn, 1) := by decide +kernel
theorem dX11_teller_0 : decode cX11_teller 0 = .ok (.aload_n 0, 1) := by decide +kernel
theorem dX11_teller_1 : decode cX11_teller 1 = .ok (.iload_n 1, 1) := by decide +kernel
theorem dX11_teller_2 : decode cX11_teller 2 = .ok (.iload_n 2, 1) := by decide +kernel
theorem dX11_teller_3 : decode cX11_teller 3 = .ok (.iload_n 3, 1) := by decide +kernel
theorem dX11_teller_4 : decode cX11_teller 4 = .ok (.iload 4, 2) := by decide +kernel
theorem dX11_teller_6 : decode cX11_teller 6 = .ok (.invokevirtual 112, 3) := by decide +kernel
theorem dX11_teller_9 : decode cX11_teller 9 = .ok (.ifCond .ne 6, 3) := by decide +kernel
theorem dX11_teller_12 : decode cX11_teller 12 = .ok (.bipush (-10), 2) := by decide +kernel
theorem dX11_teller_14 : decode cX11_teller 14 = .ok (.ireturn, 1) := by decide +kernel
theorem dX11_teller_15 : decode cX11_teller 15 = .ok (.aload_n 0, 1) := by decide +kernel
theorem dX11_teller_16 : decode cX11_teller 16 = .ok (.getfield 28, 3) := by decide +kernel
theorem dX11_teller_19 : decode cX11_teller 19 = .ok (.aload_n 0, 1) := by decide +kernel
theorem dX11_teller_20 : decode cX11_teller 20 = .ok (.getfield 10, 3) := by decide +kernel
theorem dX11_teller_23 : decode cX11_teller 23 = .ok (.getfield 70, 3) := by decide +kernel
theorem dX11_teller_26 : decode cX11_teller 26 = .ok (.iload_n 1, 1) := by decide +kernel
theorem dX11_teller_27 : decode cX11_teller 27 = .ok (.iconst 0, 1) := by decide +kernel
theorem dX11_teller_28 : decode cX11_teller 28 = .ok (.iload_n 3, 1) := by decide +kernel
theorem dX11_teller_29 : decode cX11_teller 29 = .ok (.iload 4, 2) := by decide +kernel
theorem dX11_teller_31 : decode cX11_teller 31 = .ok (.invokevirtual 116, 3) := by decide +kernel
theorem dX11_teller_34 : decode cX11_teller 34 = .ok (.aload_n 0, 1) := by decide +kernel
theorem dX11_teller_35 : decode cX11_teller 35 = .ok (.getfield 28, 3) := by decide +kernel
theorem dX11_teller_38 : decode cX11_teller 38 = .ok (.getfield 124, 3) := by decide +kernel
theorem dX11_teller_41 : decode cX11_teller 41 = .ok (.iload_n 2, 1) := by decide +kernel
theorem dX11_teller_42 : decode cX11_teller 42 = .ok (.iaload, 1) := by decide +kernel
theorem dX11_teller_43 : decode cX11_teller 43 = .ok (.ireturn, 1) := by decide +kernel
theorem dX11_meet_0 : decode cX11_meet 0 = .ok (.aload_n 0, 1) := by decide +kernel
theorem dX11_meet_1 : decode cX11_meet 1 = .ok (.getfield 10, 3) := by decide +kernel
theorem dX11_meet_4 : decode cX11_meet 4 = .ok (.getfield 70, 3) := by decide +kernel
theorem dX11_meet_7 : decode cX11_meet 7 = .ok (.astore 5, 2) := by decide +kernel
theorem dX11_meet_9 : decode cX11_meet 9 = .ok (.aload 5, 2) := by decide +kernel
theorem dX11_meet_11 : decode cX11_meet 11 = .ok (.iload_n 1, 1) := by decide +kernel
theorem dX11_meet_12 : decode cX11_meet 12 = .ok (.iload_n 2, 1) := by decide +kernel
theorem dX11_meet_13 : decode cX11_meet 13 = .ok (.invokevirtual 94, 3) := by decide +kernel
theorem dX11_meet_16 : decode cX11_meet 16 = .ok (.ifCond .eq 24, 3) := by decide +kernel
theorem dX11_meet_19 : decode cX11_meet 19 = .ok (.iload_n 3, 1) := by decide +kernel
theorem dX11_meet_20 : decode cX11_meet 20 = .ok (.iconst 0, 1) := by decide +kernel
theorem dX11_meet_21 : decode cX11_meet 21 = .ok (.sipush 240, 3) := by decide +kernel
theorem dX11_meet_24 : decode cX11_meet 24 = .ok (.invokestatic 98, 3) := by decide +kernel
theorem dX11_meet_27 : decode cX11_meet 27 = .ok (.ifCond .eq 13, 3) := by decide +kernel
theorem dX11_meet_30 : decode cX11_meet 30 = .ok (.aload 5, 2) := by decide +kernel
theorem dX11_meet_32 : decode cX11_meet 32 = .ok (.iload 4, 2) := by decide +kernel
theorem dX11_meet_34 : decode cX11_meet 34 = .ok (.invokevirtual 127, 3) := by decide +kernel
theorem dX11_meet_37 : decode cX11_meet 37 = .ok (.ifCond .ne 6, 3) := by decide +kernel
theorem dX11_meet_40 : decode cX11_meet 40 = .ok (.bipush (-10), 2) := by decide +kernel
theorem dX11_meet_42 : decode cX11_meet 42 = .ok (.ireturn, 1) := by decide +kernel
theorem dX11_meet_43 : decode cX11_meet 43 = .ok (.aload_n 0, 1) := by decide +kernel
theorem dX11_meet_44 : decode cX11_meet 44 = .ok (.getfield 28, 3) := by decide +kernel
theorem dX11_meet_47 : decode cX11_meet 47 = .ok (.aload 5, 2) := by decide +kernel
theorem dX11_meet_49 : decode cX11_meet 49 = .ok (.iload_n 1, 1) := by decide +kernel
theorem dX11_meet_50 : decode cX11_meet 50 = .ok (.iconst 0, 1) := by decide +kernel
theorem dX11_meet_51 : decode cX11_meet 51 = .ok (.iconst 0, 1) := by decide +kernel
theorem dX11_meet_52 : decode cX11_meet 52 = .ok (.iconst (-1), 1) := by decide +kernel
theorem dX11_meet_53 : decode cX11_meet 53 = .ok (.invokevirtual 116, 3) := by decide +kernel
theorem dX11_meet_56 : decode cX11_meet 56 = .ok (.aload_n 0, 1) := by decide +kernel
theorem dX11_meet_57 : decode cX11_meet 57 = .ok (.getfield 32, 3) := by decide +kernel
theorem dX11_meet_60 : decode cX11_meet 60 = .ok (.aload 5, 2) := by decide +kernel
theorem dX11_meet_62 : decode cX11_meet 62 = .ok (.iload_n 2, 1) := by decide +kernel
theorem dX11_meet_63 : decode cX11_meet 63 = .ok (.iload_n 3, 1) := by decide +kernel
theorem dX11_meet_64 : decode cX11_meet 64 = .ok (.iconst 0, 1) := by decide +kernel
theorem dX11_meet_65 : decode cX11_meet 65 = .ok (.iconst (-1), 1) := by decide +kernel
theorem dX11_meet_66 : decode cX11_meet 66 = .ok (.invokevirtual 116, 3) := by decide +kernel
theorem dX11_meet_69 : decode cX11_meet 69 = .ok (.aload_n 0, 1) := by decide +kernel
theorem dX11_meet_70 : decode cX11_meet 70 = .ok (.getfield 28, 3) := by decide +kernel
theorem dX11_meet_73 : decode cX11_meet 73 = .ok (.getfield 120, 3) := by decide +kernel
theorem dX11_meet_76 : decode cX11_meet 76 = .ok (.iload 4, 2) := by decide +kernel
theorem dX11_meet_78 : decode cX11_meet 78 = .ok (.iaload, 1) := by decide +kernel
theorem dX11_meet_79 : decode cX11_meet 79 = .ok (.aload_n 0, 1) := by decide +kernel
theorem dX11_meet_80 : decode cX11_meet 80 = .ok (.getfield 32, 3) := by decide +kernel
theorem dX11_meet_83 : decode cX11_meet 83 = .ok (.getfield 120, 3) := by decide +kernel
theorem dX11_meet_86 : decode cX11_meet 86 = .ok (.iload 4, 2) := by decide +kernel
theorem dX11_meet_88 : decode cX11_meet 88 = .ok (.iaload, 1) := by decide +kernel
theorem dX11_meet_89 : decode cX11_meet 89 = .ok (.invokestatic 131, 3) := by decide +kernel
theorem dX11_meet_92 : decode cX11_meet 92 = .ok (.ireturn, 1) := by decide +kernel
theorem dX11_seen_0 : decode cX11_seen 0 = .ok (.aload_n 0, 1) := by decide +kernel
theorem dX11_seen_1 : decode cX11_seen 1 = .ok (.getfield 10, 3) := by decide +kernel
theorem dX11_seen_4 : decode cX11_seen 4 = .ok (.getfield 70, 3) := by decide +kernel
theorem dX11_seen_7 : decode cX11_seen 7 = .ok (.iload_n 1, 1) := by decide +kernel
theorem dX11_seen_8 : decode cX11_seen 8 = .ok (.invokevirtual 127, 3) := by decide +kernel
theorem dX11_seen_11 : decode cX11_seen 11 = .ok (.ifCond .ne 6, 3) := by decide +kernel
theorem dX11_seen_14 : decode cX11_seen 14 = .ok (.bipush (-2), 2) := by decide +kernel
theorem dX11_seen_16 : decode cX11_seen 16 = .ok (.ireturn, 1) := by decide +kernel
theorem dX11_seen_17 : decode cX11_seen 17 = .ok (.aload_n 0, 1) := by decide +kernel
theorem dX11_seen_18 : decode cX11_seen 18 = .ok (.getfield 10, 3) := by decide +kernel
theorem dX11_seen_21 : decode cX11_seen 21 = .ok (.getfield 134, 3) := by decide +kernel
theorem dX11_seen_24 : decode cX11_seen 24 = .ok (.iload_n 1, 1) := by decide +kernel
theorem dX11_seen_25 : decode cX11_seen 25 = .ok (.iload_n 2, 1) := by decide +kernel
theorem dX11_seen_26 : decode cX11_seen 26 = .ok (.iload_n 3, 1) := by decide +kernel
theorem dX11_seen_27 : decode cX11_seen 27 = .ok (.invokevirtual 138, 3) := by decide +kernel
theorem dX11_seen_30 : decode cX11_seen 30 = .ok (.ireturn, 1) := by decide +kernel
theorem dX11_source_0 : decode cX11_source 0 = .ok (.iconst 0, 1) := by decide +kernel
theorem dX11_source_1 : decode cX11_source 1 = .ok (.istore_n 1, 1) := by decide +kernel
theorem dX11_source_2 : decode cX11_source 2 = .ok (.iconst 0, 1) := by decide +kernel
theorem dX11_source_3 : decode cX11_source 3 = .ok (.istore_n 2, 1) := by decide +kernel
theorem dX11_source_4 : decode cX11_source 4 = .ok (.iload_n 2, 1) := by decide +kernel
theorem dX11_source_5 : decode cX11_source 5 = .ok (.aload_n 0, 1) := by decide +kernel
theorem dX11_source_6 : decode cX11_source 6 = .ok (.getfield 10, 3) := by decide +kernel
theorem dX11_source_9 : decode cX11_source 9 = .ok (.getfield 70, 3) := by decide +kernel
theorem dX11_source_12 : decode cX11_source 12 = .ok (.getfield 144, 3) := by decide +kernel
theorem dX11_source_15 : decode cX11_source 15 = .ok (.if_icmp .ge 50, 3) := by decide +kernel
theorem dX11_source_18 : decode cX11_source 18 = .ok (.aload_n 0, 1) := by decide +kernel
theorem dX11_source_19 : decode cX11_source 19 = .ok (.getfield 28, 3) := by decide +kernel
theorem dX11_source_22 : decode cX11_source 22 = .ok (.aload_n 0, 1) := by decide +kernel
theorem dX11_source_23 : decode cX11_source 23 = .ok (.getfield 10, 3) := by decide +kernel
theorem dX11_source_26 : decode cX11_source 26 = .ok (.getfield 70, 3) := by decide +kernel
theorem dX11_source_29 : decode cX11_source 29 = .ok (.iload_n 2, 1) := by decide +kernel
theorem dX11_source_30 : decode cX11_source 30 = .ok (.iconst 0, 1) := by decide +kernel
theorem dX11_source_31 : decode cX11_source 31 = .ok (.iconst 0, 1) := by decide +kernel
theorem dX11_source_32 : decode cX11_source 32 = .ok (.iconst (-1), 1) := by decide +kernel
theorem dX11_source_33 : decode cX11_source 33 = .ok (.invokevirtual 116, 3) := by decide +kernel
theorem dX11_source_36 : decode cX11_source 36 = .ok (.aload_n 0, 1) := by decide +kernel
theorem dX11_source_37 : decode cX11_source 37 = .ok (.getfield 10, 3) := by decide +kernel
theorem dX11_source_40 : decode cX11_source 40 = .ok (.getfield 134, 3) := by decide +kernel
theorem dX11_source_43 : decode cX11_source 43 = .ok (.aload_n 0, 1) := by decide +kernel
theorem dX11_source_44 : decode cX11_source 44 = .ok (.getfield 28, 3) := by decide +kernel
theorem dX11_source_47 : decode cX11_source 47 = .ok (.invokevirtual 148, 3) := by decide +kernel
theorem dX11_source_50 : decode cX11_source 50 = .ok (.ifCond .eq 9, 3) := by decide +kernel
theorem dX11_source_53 : decode cX11_source 53 = .ok (.iload_n 1, 1) := by decide +kernel
theorem dX11_source_54 : decode cX11_source 54 = .ok (.iconst 1, 1) := by decide +kernel
theorem dX11_source_55 : decode cX11_source 55 = .ok (.iload_n 2, 1) := by decide +kernel
theorem dX11_source_56 : decode cX11_source 56 = .ok (.ishl, 1) := by decide +kernel
theorem dX11_source_57 : decode cX11_source 57 = .ok (.ior, 1) := by decide +kernel
theorem dX11_source_58 : decode cX11_source 58 = .ok (.istore_n 1, 1) := by decide +kernel
theorem dX11_source_59 : decode cX11_source 59 = .ok (.iinc 2 1, 3) := by decide +kernel
theorem dX11_source_62 : decode cX11_source 62 = .ok (.goto (-58), 3) := by decide +kernel
theorem dX11_source_65 : decode cX11_source 65 = .ok (.iload_n 1, 1) := by decide +kernel
theorem dX11_source_66 : decode cX11_source 66 = .ok (.ireturn, 1) := by decide +kernel
theorem dX11_apart_0 : decode cX11_apart 0 = .ok (.aload_n 0, 1) := by decide +kernel
theorem dX11_apart_1 : decode cX11_apart 1 = .ok (.getfield 10, 3) := by decide +kernel
theorem dX11_apart_4 : decode cX11_apart 4 = .ok (.getfield 70, 3) := by decide +kernel
theorem dX11_apart_7 : decode cX11_apart 7 = .ok (.iload_n 1, 1) := by decide +kernel
theorem dX11_apart_8 : decode cX11_apart 8 = .ok (.iload_n 2, 1) := by decide +kernel
theorem dX11_apart_9 : decode cX11_apart 9 = .ok (.invokevirtual 94, 3) := by decide +kernel
theorem dX11_apart_12 : decode cX11_apart 12 = .ok (.ifCond .ne 6, 3) := by decide +kernel
theorem dX11_apart_15 : decode cX11_apart 15 = .ok (.bipush (-2), 2) := by decide +kernel
theorem dX11_apart_17 : decode cX11_apart 17 = .ok (.ireturn, 1) := by decide +kernel
theorem dX11_apart_18 : decode cX11_apart 18 = .ok (.aload_n 0, 1) := by decide +kernel
theorem dX11_apart_19 : decode cX11_apart 19 = .ok (.getfield 28, 3) := by decide +kernel
theorem dX11_apart_22 : decode cX11_apart 22 = .ok (.aload_n 0, 1) := by decide +kernel
theorem dX11_apart_23 : decode cX11_apart 23 = .ok (.getfield 10, 3) := by decide +kernel
theorem dX11_apart_26 : decode cX11_apart 26 = .ok (.getfield 70, 3) := by decide +kernel
theorem dX11_apart_29 : decode cX11_apart 29 = .ok (.iload_n 1, 1) := by decide +kernel
theorem dX11_apart_30 : decode cX11_apart 30 = .ok (.iload_n 2, 1) := by decide +kernel
theorem dX11_apart_31 : decode cX11_apart 31 = .ok (.invokevirtual 152, 3) := by decide +kernel
theorem dX11_apart_34 : decode cX11_apart 34 = .ok (.ireturn, 1) := by decide +kernel
theorem dX11_like_0 : decode cX11_like 0 = .ok (.aload_n 0, 1) := by decide +kernel
theorem dX11_like_1 : decode cX11_like 1 = .ok (.getfield 10, 3) := by decide +kernel
theorem dX11_like_4 : decode cX11_like 4 = .ok (.getfield 156, 3) := by decide +kernel
theorem dX11_like_7 : decode cX11_like 7 = .ok (.iload_n 1, 1) := by decide +kernel
theorem dX11_like_8 : decode cX11_like 8 = .ok (.iload_n 2, 1) := by decide +kernel
theorem dX11_like_9 : decode cX11_like 9 = .ok (.invokevirtual 160, 3) := by decide +kernel
theorem dX11_like_12 : decode cX11_like 12 = .ok (.ireturn, 1) := by decide +kernel
theorem dX11_word_0 : decode cX11_word 0 = .ok (.aload_n 0, 1) := by decide +kernel
theorem dX11_word_1 : decode cX11_word 1 = .ok (.getfield 10, 3) := by decide +kernel
theorem dX11_word_4 : decode cX11_word 4 = .ok (.getfield 156, 3) := by decide +kernel
theorem dX11_word_7 : decode cX11_word 7 = .ok (.iload_n 1, 1) := by decide +kernel
theorem dX11_word_8 : decode cX11_word 8 = .ok (.iload_n 2, 1) := by decide +kernel
theorem dX11_word_9 : decode cX11_word 9 = .ok (.iload_n 3, 1) := by decide +kernel
theorem dX11_word_10 : decode cX11_word 10 = .ok (.invokevirtual 165, 3) := by decide +kernel
theorem dX11_word_13 : decode cX11_word 13 = .ok (.ireturn, 1) := by decide +kernel
theorem dX11_alike_0 : decode cX11_alike 0 = .ok (.aload_n 0, 1) := by decide +kernel
theorem dX11_alike_1 : decode cX11_alike 1 = .ok (.getfield 10, 3) := by decide +kernel
theorem dX11_alike_4 : decode cX11_alike 4 = .ok (.getfield 156, 3) := by decide +kernel
theorem dX11_alike_7 : decode cX11_alike 7 = .ok (.iload_n 1, 1) := by decide +kernel
theorem dX11_alike_8 : decode cX11_alike 8 = .ok (.invokevirtual 169, 3) := by decide +kernel
theorem dX11_alike_11 : decode cX11_alike 11 = .ok (.ifCond .eq 17, 3) := by decide +kernel
theorem dX11_alike_14 : decode cX11_alike 14 = .ok (.aload_n 0, 1) := by decide +kernel
theorem dX11_alike_15 : decode cX11_alike 15 = .ok (.getfield 10, 3) := by decide +kernel
theorem dX11_alike_18 : decode cX11_alike 18 = .ok (.getfield 156, 3) := by decide +kernel
theorem dX11_alike_21 : decode cX11_alike 21 = .ok (.iload_n 2, 1) := by decide +kernel
theorem dX11_alike_22 : decode cX11_alike 22 = .ok (.invokevirtual 169, 3) := by decide +kernel
theorem dX11_alike_25 : decode cX11_alike 25 = .ok (.ifCond .ne 6, 3) := by decide +kernel
theorem dX11_alike_28 : decode cX11_alike 28 = .ok (.bipush (-2), 2) := by decide +kernel
theorem dX11_alike_30 : decode cX11_alike 30 = .ok (.ireturn, 1) := by decide +kernel
theorem dX11_alike_31 : decode cX11_alike 31 = .ok (.aload_n 0, 1) := by decide +kernel
theorem dX11_alike_32 : decode cX11_alike 32 = .ok (.getfield 10, 3) := by decide +kernel
theorem dX11_alike_35 : decode cX11_alike 35 = .ok (.getfield 156, 3) := by decide +kernel
theorem dX11_alike_38 : decode cX11_alike 38 = .ok (.iload_n 1, 1) := by decide +kernel
theorem dX11_alike_39 : decode cX11_alike 39 = .ok (.iload_n 2, 1) := by decide +kernel
theorem dX11_alike_40 : decode cX11_alike 40 = .ok (.invokevirtual 172, 3) := by decide +kernel
theorem dX11_alike_43 : decode cX11_alike 43 = .ok (.invokestatic 105, 3) := by decide +kernel
theorem dX11_alike_46 : decode cX11_alike 46 = .ok (.ireturn, 1) := by decide +kernel
theorem dX11_lip_0 : decode cX11_lip 0 = .ok (.aload_n 0, 1) := by decide +kernel
theorem dX11_lip_1 : decode cX11_lip 1 = .ok (.getfield 10, 3) := by decide +kernel
theorem dX11_lip_4 : decode cX11_lip 4 = .ok (.getfield 156, 3) := by decide +kernel
theorem dX11_lip_7 : decode cX11_lip 7 = .ok (.iload_n 1, 1) := by decide +kernel
theorem dX11_lip_8 : decode cX11_lip 8 = .ok (.invokevirtual 175, 3) := by decide +kernel
theorem dX11_lip_11 : decode cX11_lip 11 = .ok (.ireturn, 1) := by decide +kernel
theorem dX11_hush_0 : decode cX11_hush 0 = .ok (.aload_n 0, 1) := by decide +kernel
theorem dX11_hush_1 : decode cX11_hush 1 = .ok (.getfield 10, 3) := by decide +kernel
theorem dX11_hush_4 : decode cX11_hush 4 = .ok (.getfield 156, 3) := by decide +kernel
theorem dX11_hush_7 : decode cX11_hush 7 = .ok (.getfield 178, 3) := by decide +kernel
theorem dX11_hush_10 : decode cX11_hush 10 = .ok (.istore_n 1, 1) := by decide +kernel
theorem dX11_hush_11 : decode cX11_hush 11 = .ok (.aload_n 0, 1) := by decide +kernel
theorem dX11_hush_12 : decode cX11_hush 12 = .ok (.getfield 10, 3) := by decide +kernel
theorem dX11_hush_15 : decode cX11_hush 15 = .ok (.getfield 156, 3) := by decide +kernel
theorem dX11_hush_18 : decode cX11_hush 18 = .ok (.iconst 0, 1) := by decide +kernel
theorem dX11_hush_19 : decode cX11_hush 19 = .ok (.putfield 178, 3) := by decide +kernel
theorem dX11_hush_22 : decode cX11_hush 22 = .ok (.iload_n 1, 1) := by decide +kernel
theorem dX11_hush_23 : decode cX11_hush 23 = .ok (.ireturn, 1) := by decide +kernel
theorem dX11_reads_0 : decode cX11_reads 0 = .ok (.iload_n 1, 1) := by decide +kernel
theorem dX11_reads_1 : decode cX11_reads 1 = .ok (.iconst (-1), 1) := by decide +kernel
theorem dX11_reads_2 : decode cX11_reads 2 = .ok (.bipush 24, 2) := by decide +kernel
theorem dX11_reads_4 : decode cX11_reads 4 = .ok (.invokestatic 98, 3) := by decide +kernel
theorem dX11_reads_7 : decode cX11_reads 7 = .ok (.ifCond .ne 6, 3) := by decide +kernel
theorem dX11_reads_10 : decode cX11_reads 10 = .ok (.bipush (-10), 2) := by decide +kernel
theorem dX11_reads_12 : decode cX11_reads 12 = .ok (.ireturn, 1) := by decide +kernel
theorem dX11_reads_13 : decode cX11_reads 13 = .ok (.aload_n 0, 1) := by decide +kernel
theorem dX11_reads_14 : decode cX11_reads 14 = .ok (.getfield 38, 3) := by decide +kernel
theorem dX11_reads_17 : decode cX11_reads 17 = .ok (.aload_n 0, 1) := by decide +kernel
theorem dX11_reads_18 : decode cX11_reads 18 = .ok (.getfield 10, 3) := by decide +kernel
theorem dX11_reads_21 : decode cX11_reads 21 = .ok (.getfield 156, 3) := by decide +kernel
theorem dX11_reads_24 : decode cX11_reads 24 = .ok (.invokevirtual 181, 3) := by decide +kernel
theorem dX11_reads_27 : decode cX11_reads 27 = .ok (.iload_n 1, 1) := by decide +kernel
theorem dX11_reads_28 : decode cX11_reads 28 = .ok (.iconst (-1), 1) := by decide +kernel
theorem dX11_reads_29 : decode cX11_reads 29 = .ok (.if_icmp .ne 11, 3) := by decide +kernel
theorem dX11_reads_32 : decode cX11_reads 32 = .ok (.aload_n 0, 1) := by decide +kernel
theorem dX11_reads_33 : decode cX11_reads 33 = .ok (.getfield 38, 3) := by decide +kernel
theorem dX11_reads_36 : decode cX11_reads 36 = .ok (.invokevirtual 185, 3) := by decide +kernel
theorem dX11_reads_39 : decode cX11_reads 39 = .ok (.ireturn, 1) := by decide +kernel
theorem dX11_reads_40 : decode cX11_reads 40 = .ok (.iload_n 1, 1) := by decide +kernel
theorem dX11_reads_41 : decode cX11_reads 41 = .ok (.bipush 24, 2) := by decide +kernel
theorem dX11_reads_43 : decode cX11_reads 43 = .ok (.if_icmp .ne 13, 3) := by decide +kernel
theorem dX11_reads_46 : decode cX11_reads 46 = .ok (.aload_n 0, 1) := by decide +kernel
theorem dX11_reads_47 : decode cX11_reads 47 = .ok (.getfield 38, 3) := by decide +kernel
theorem dX11_reads_50 : decode cX11_reads 50 = .ok (.invokevirtual 189, 3) := by decide +kernel
theorem dX11_reads_53 : decode cX11_reads 53 = .ok (.goto 18, 3) := by decide +kernel
theorem dX11_reads_56 : decode cX11_reads 56 = .ok (.aload_n 0, 1) := by decide +kernel
theorem dX11_reads_57 : decode cX11_reads 57 = .ok (.getfield 38, 3) := by decide +kernel
theorem dX11_reads_60 : decode cX11_reads 60 = .ok (.aload_n 0, 1) := by decide +kernel
theorem dX11_reads_61 : decode cX11_reads 61 = .ok (.getfield 10, 3) := by decide +kernel
theorem dX11_reads_64 : decode cX11_reads 64 = .ok (.getfield 156, 3) := by decide +kernel
theorem dX11_reads_67 : decode cX11_reads 67 = .ok (.iload_n 1, 1) := by decide +kernel
theorem dX11_reads_68 : decode cX11_reads 68 = .ok (.invokevirtual 192, 3) := by decide +kernel
theorem dX11_reads_71 : decode cX11_reads 71 = .ok (.istore_n 2, 1) := by decide +kernel
theorem dX11_reads_72 : decode cX11_reads 72 = .ok (.iload_n 2, 1) := by decide +kernel
theorem dX11_reads_73 : decode cX11_reads 73 = .ok (.iconst (-1), 1) := by decide +kernel
theorem dX11_reads_74 : decode cX11_reads 74 = .ok (.if_icmp .ne 8, 3) := by decide +kernel
theorem dX11_reads_77 : decode cX11_reads 77 = .ok (.bipush (-5), 2) := by decide +kernel
theorem dX11_reads_79 : decode cX11_reads 79 = .ok (.goto 4, 3) := by decide +kernel
theorem dX11_reads_82 : decode cX11_reads 82 = .ok (.iload_n 2, 1) := by decide +kernel
theorem dX11_reads_83 : decode cX11_reads 83 = .ok (.ireturn, 1) := by decide +kernel
theorem dX11_mistaken_0 : decode cX11_mistaken 0 = .ok (.aload_n 0, 1) := by decide +kernel
theorem dX11_mistaken_1 : decode cX11_mistaken 1 = .ok (.getfield 10, 3) := by decide +kernel
theorem dX11_mistaken_4 : decode cX11_mistaken 4 = .ok (.getfield 156, 3) := by decide +kernel
theorem dX11_mistaken_7 : decode cX11_mistaken 7 = .ok (.iload_n 1, 1) := by decide +kernel
theorem dX11_mistaken_8 : decode cX11_mistaken 8 = .ok (.invokevirtual 196, 3) := by decide +kernel
theorem dX11_mistaken_11 : decode cX11_mistaken 11 = .ok (.ifCond .ne 6, 3) := by decide +kernel
theorem dX11_mistaken_14 : decode cX11_mistaken 14 = .ok (.bipush (-2), 2) := by decide +kernel
theorem dX11_mistaken_16 : decode cX11_mistaken 16 = .ok (.ireturn, 1) := by decide +kernel
theorem dX11_mistaken_17 : decode cX11_mistaken 17 = .ok (.aload_n 0, 1) := by decide +kernel
theorem dX11_mistaken_18 : decode cX11_mistaken 18 = .ok (.getfield 10, 3) := by decide +kernel
theorem dX11_mistaken_21 : decode cX11_mistaken 21 = .ok (.getfield 156, 3) := by decide +kernel
theorem dX11_mistaken_24 : decode cX11_mistaken 24 = .ok (.iload_n 1, 1) := by decide +kernel
theorem dX11_mistaken_25 : decode cX11_mistaken 25 = .ok (.invokevirtual 199, 3) := by decide +kernel
theorem dX11_mistaken_28 : decode cX11_mistaken 28 = .ok (.ireturn, 1) := by decide +kernel
theorem dX11_signs_0 : decode cX11_signs 0 = .ok (.iload_n 1, 1) := by decide +kernel
theorem dX11_signs_1 : decode cX11_signs 1 = .ok (.iconst 0, 1) := by decide +kernel
theorem dX11_signs_2 : decode cX11_signs 2 = .ok (.aload_n 0, 1) := by decide +kernel
theorem dX11_signs_3 : decode cX11_signs 3 = .ok (.getfield 10, 3) := by decide +kernel
theorem dX11_signs_6 : decode cX11_signs 6 = .ok (.getfield 156, 3) := by decide +kernel
theorem dX11_signs_9 : decode cX11_signs 9 = .ok (.getfield 202, 3) := by decide +kernel
theorem dX11_signs_12 : decode cX11_signs 12 = .ok (.invokestatic 98, 3) := by decide +kernel
theorem dX11_signs_15 : decode cX11_signs 15 = .ok (.ifCond .ne 6, 3) := by decide +kernel
theorem dX11_signs_18 : decode cX11_signs 18 = .ok (.bipush (-2), 2) := by decide +kernel
theorem dX11_signs_20 : decode cX11_signs 20 = .ok (.ireturn, 1) := by decide +kernel
theorem dX11_signs_21 : decode cX11_signs 21 = .ok (.aload_n 0, 1) := by decide +kernel
theorem dX11_signs_22 : decode cX11_signs 22 = .ok (.getfield 10, 3) := by decide +kernel
theorem dX11_signs_25 : decode cX11_signs 25 = .ok (.getfield 156, 3) := by decide +kernel
theorem dX11_signs_28 : decode cX11_signs 28 = .ok (.iload_n 1, 1) := by decide +kernel
theorem dX11_signs_29 : decode cX11_signs 29 = .ok (.invokevirtual 205, 3) := by decide +kernel
theorem dX11_signs_32 : decode cX11_signs 32 = .ok (.ireturn, 1) := by decide +kernel
theorem dX11_plain_0 : decode cX11_plain 0 = .ok (.iload_n 1, 1) := by decide +kernel
theorem dX11_plain_1 : decode cX11_plain 1 = .ok (.iconst 1, 1) := by decide +kernel
theorem dX11_plain_2 : decode cX11_plain 2 = .ok (.bipush 99, 2) := by decide +kernel
theorem dX11_plain_4 : decode cX11_plain 4 = .ok (.invokestatic 98, 3) := by decide +kernel
theorem dX11_plain_7 : decode cX11_plain 7 = .ok (.ifCond .ne 6, 3) := by decide +kernel
theorem dX11_plain_10 : decode cX11_plain 10 = .ok (.bipush (-2), 2) := by decide +kernel
theorem dX11_plain_12 : decode cX11_plain 12 = .ok (.ireturn, 1) := by decide +kernel
theorem dX11_plain_13 : decode cX11_plain 13 = .ok (.aload_n 0, 1) := by decide +kernel
theorem dX11_plain_14 : decode cX11_plain 14 = .ok (.getfield 10, 3) := by decide +kernel
theorem dX11_plain_17 : decode cX11_plain 17 = .ok (.getfield 208, 3) := by decide +kernel
theorem dX11_plain_20 : decode cX11_plain 20 = .ok (.istore_n 2, 1) := by decide +kernel
theorem dX11_plain_21 : decode cX11_plain 21 = .ok (.aload_n 0, 1) := by decide +kernel
theorem dX11_plain_22 : decode cX11_plain 22 = .ok (.getfield 10, 3) := by decide +kernel
theorem dX11_plain_25 : decode cX11_plain 25 = .ok (.iload_n 1, 1) := by decide +kernel
theorem dX11_plain_26 : decode cX11_plain 26 = .ok (.putfield 208, 3) := by decide +kernel
theorem dX11_plain_29 : decode cX11_plain 29 = .ok (.iload_n 2, 1) := by decide +kernel
theorem dX11_plain_30 : decode cX11_plain 30 = .ok (.ireturn, 1) := by decide +kernel
theorem dX11_arrives_0 : decode cX11_arrives 0 = .ok (.aload_n 0, 1) := by decide +kernel
theorem dX11_arrives_1 : decode cX11_arrives 1 = .ok (.getfield 10, 3) := by decide +kernel
theorem dX11_arrives_4 : decode cX11_arrives 4 = .ok (.getfield 156, 3) := by decide +kernel
theorem dX11_arrives_7 : decode cX11_arrives 7 = .ok (.astore 4, 2) := by decide +kernel
theorem dX11_arrives_9 : decode cX11_arrives 9 = .ok (.aload 4, 2) := by decide +kernel
theorem dX11_arrives_11 : decode cX11_arrives 11 = .ok (.iload_n 1, 1) := by decide +kernel
theorem dX11_arrives_12 : decode cX11_arrives 12 = .ok (.invokevirtual 169, 3) := by decide +kernel
theorem dX11_arrives_15 : decode cX11_arrives 15 = .ok (.ifCond .eq 22, 3) := by decide +kernel
theorem dX11_arrives_18 : decode cX11_arrives 18 = .ok (.aload 4, 2) := by decide +kernel
theorem dX11_arrives_20 : decode cX11_arrives 20 = .ok (.iload_n 2, 1) := by decide +kernel
theorem dX11_arrives_21 : decode cX11_arrives 21 = .ok (.invokevirtual 169, 3) := by decide +kernel
theorem dX11_arrives_24 : decode cX11_arrives 24 = .ok (.ifCond .eq 13, 3) := by decide +kernel
theorem dX11_arrives_27 : decode cX11_arrives 27 = .ok (.iload_n 3, 1) := by decide +kernel
theorem dX11_arrives_28 : decode cX11_arrives 28 = .ok (.iconst 1, 1) := by decide +kernel
theorem dX11_arrives_29 : decode cX11_arrives 29 = .ok (.bipush 12, 2) := by decide +kernel
theorem dX11_arrives_31 : decode cX11_arrives 31 = .ok (.invokestatic 98, 3) := by decide +kernel
theorem dX11_arrives_34 : decode cX11_arrives 34 = .ok (.ifCond .ne 6, 3) := by decide +kernel
theorem dX11_arrives_37 : decode cX11_arrives 37 = .ok (.bipush (-2), 2) := by decide +kernel
theorem dX11_arrives_39 : decode cX11_arrives 39 = .ok (.ireturn, 1) := by decide +kernel
theorem dX11_arrives_40 : decode cX11_arrives 40 = .ok (.aload_n 0, 1) := by decide +kernel
theorem dX11_arrives_41 : decode cX11_arrives 41 = .ok (.getfield 45, 3) := by decide +kernel
theorem dX11_arrives_44 : decode cX11_arrives 44 = .ok (.aload 4, 2) := by decide +kernel
theorem dX11_arrives_46 : decode cX11_arrives 46 = .ok (.aload_n 0, 1) := by decide +kernel
theorem dX11_arrives_47 : decode cX11_arrives 47 = .ok (.getfield 10, 3) := by decide +kernel
theorem dX11_arrives_50 : decode cX11_arrives 50 = .ok (.getfield 208, 3) := by decide +kernel
theorem dX11_arrives_53 : decode cX11_arrives 53 = .ok (.iload_n 1, 1) := by decide +kernel
theorem dX11_arrives_54 : decode cX11_arrives 54 = .ok (.invokevirtual 211, 3) := by decide +kernel
theorem dX11_arrives_57 : decode cX11_arrives 57 = .ok (.iconst 0, 1) := by decide +kernel
theorem dX11_arrives_58 : decode cX11_arrives 58 = .ok (.istore 5, 2) := by decide +kernel
theorem dX11_arrives_60 : decode cX11_arrives 60 = .ok (.iload 5, 2) := by decide +kernel
theorem dX11_arrives_62 : decode cX11_arrives 62 = .ok (.iload_n 3, 1) := by decide +kernel
theorem dX11_arrives_63 : decode cX11_arrives 63 = .ok (.if_icmp .ge 16, 3) := by decide +kernel
theorem dX11_arrives_66 : decode cX11_arrives 66 = .ok (.aload_n 0, 1) := by decide +kernel
theorem dX11_arrives_67 : decode cX11_arrives 67 = .ok (.getfield 45, 3) := by decide +kernel
theorem dX11_arrives_70 : decode cX11_arrives 70 = .ok (.invokevirtual 215, 3) := by decide +kernel
theorem dX11_arrives_73 : decode cX11_arrives 73 = .ok (.iinc 5 1, 3) := by decide +kernel
theorem dX11_arrives_76 : decode cX11_arrives 76 = .ok (.goto (-16), 3) := by decide +kernel
theorem dX11_arrives_79 : decode cX11_arrives 79 = .ok (.aload_n 0, 1) := by decide +kernel
theorem dX11_arrives_80 : decode cX11_arrives 80 = .ok (.getfield 45, 3) := by decide +kernel
theorem dX11_arrives_83 : decode cX11_arrives 83 = .ok (.iload_n 2, 1) := by decide +kernel
theorem dX11_arrives_84 : decode cX11_arrives 84 = .ok (.aload_n 0, 1) := by decide +kernel
theorem dX11_arrives_85 : decode cX11_arrives 85 = .ok (.getfield 66, 3) := by decide +kernel
theorem dX11_arrives_88 : decode cX11_arrives 88 = .ok (.invokevirtual 218, 3) := by decide +kernel
theorem dX11_arrives_91 : decode cX11_arrives 91 = .ok (.iconst 1, 1) := by decide +kernel
theorem dX11_arrives_92 : decode cX11_arrives 92 = .ok (.ireturn, 1) := by decide +kernel
theorem dX11_turns_0 : decode cX11_turns 0 = .ok (.aload_n 0, 1) := by decide +kernel
theorem dX11_turns_1 : decode cX11_turns 1 = .ok (.getfield 10, 3) := by decide +kernel
theorem dX11_turns_4 : decode cX11_turns 4 = .ok (.getfield 156, 3) := by decide +kernel
theorem dX11_turns_7 : decode cX11_turns 7 = .ok (.iload_n 1, 1) := by decide +kernel
theorem dX11_turns_8 : decode cX11_turns 8 = .ok (.invokevirtual 169, 3) := by decide +kernel
theorem dX11_turns_11 : decode cX11_turns 11 = .ok (.ifCond .eq 23, 3) := by decide +kernel
theorem dX11_turns_14 : decode cX11_turns 14 = .ok (.iload_n 2, 1) := by decide +kernel
theorem dX11_turns_15 : decode cX11_turns 15 = .ok (.iconst 0, 1) := by decide +kernel
theorem dX11_turns_16 : decode cX11_turns 16 = .ok (.bipush 99, 2) := by decide +kernel
theorem dX11_turns_18 : decode cX11_turns 18 = .ok (.invokestatic 98, 3) := by decide +kernel
theorem dX11_turns_21 : decode cX11_turns 21 = .ok (.ifCond .eq 13, 3) := by decide +kernel
theorem dX11_turns_24 : decode cX11_turns 24 = .ok (.iload_n 3, 1) := by decide +kernel
theorem dX11_turns_25 : decode cX11_turns 25 = .ok (.iconst 1, 1) := by decide +kernel
theorem dX11_turns_26 : decode cX11_turns 26 = .ok (.bipush 99, 2) := by decide +kernel
theorem dX11_turns_28 : decode cX11_turns 28 = .ok (.invokestatic 98, 3) := by decide +kernel
theorem dX11_turns_31 : decode cX11_turns 31 = .ok (.ifCond .ne 6, 3) := by decide +kernel
theorem dX11_turns_34 : decode cX11_turns 34 = .ok (.bipush (-10), 2) := by decide +kernel
theorem dX11_turns_36 : decode cX11_turns 36 = .ok (.ireturn, 1) := by decide +kernel
theorem dX11_turns_37 : decode cX11_turns 37 = .ok (.aload_n 0, 1) := by decide +kernel
theorem dX11_turns_38 : decode cX11_turns 38 = .ok (.getfield 45, 3) := by decide +kernel
theorem dX11_turns_41 : decode cX11_turns 41 = .ok (.aload_n 0, 1) := by decide +kernel
theorem dX11_turns_42 : decode cX11_turns 42 = .ok (.getfield 10, 3) := by decide +kernel
theorem dX11_turns_45 : decode cX11_turns 45 = .ok (.getfield 156, 3) := by decide +kernel
theorem dX11_turns_48 : decode cX11_turns 48 = .ok (.aload_n 0, 1) := by decide +kernel
theorem dX11_turns_49 : decode cX11_turns 49 = .ok (.getfield 10, 3) := by decide +kernel
theorem dX11_turns_52 : decode cX11_turns 52 = .ok (.getfield 208, 3) := by decide +kernel
theorem dX11_turns_55 : decode cX11_turns 55 = .ok (.iload_n 1, 1) := by decide +kernel
theorem dX11_turns_56 : decode cX11_turns 56 = .ok (.invokevirtual 211, 3) := by decide +kernel
theorem dX11_turns_59 : decode cX11_turns 59 = .ok (.iconst 1, 1) := by decide +kernel
theorem dX11_turns_60 : decode cX11_turns 60 = .ok (.istore 4, 2) := by decide +kernel
theorem dX11_turns_62 : decode cX11_turns 62 = .ok (.iload 4, 2) := by decide +kernel
theorem dX11_turns_64 : decode cX11_turns 64 = .ok (.bipush 12, 2) := by decide +kernel
theorem dX11_turns_66 : decode cX11_turns 66 = .ok (.if_icmp .gt 32, 3) := by decide +kernel
theorem dX11_turns_69 : decode cX11_turns 69 = .ok (.aload_n 0, 1) := by decide +kernel
theorem dX11_turns_70 : decode cX11_turns 70 = .ok (.getfield 45, 3) := by decide +kernel
theorem dX11_turns_73 : decode cX11_turns 73 = .ok (.invokevirtual 215, 3) := by decide +kernel
theorem dX11_turns_76 : decode cX11_turns 76 = .ok (.aload_n 0, 1) := by decide +kernel
theorem dX11_turns_77 : decode cX11_turns 77 = .ok (.getfield 45, 3) := by decide +kernel
theorem dX11_turns_80 : decode cX11_turns 80 = .ok (.iload_n 1, 1) := by decide +kernel
theorem dX11_turns_81 : decode cX11_turns 81 = .ok (.iload_n 2, 1) := by decide +kernel
theorem dX11_turns_82 : decode cX11_turns 82 = .ok (.iload_n 3, 1) := by decide +kernel
theorem dX11_turns_83 : decode cX11_turns 83 = .ok (.invokevirtual 222, 3) := by decide +kernel
theorem dX11_turns_86 : decode cX11_turns 86 = .ok (.ifCond .eq 6, 3) := by decide +kernel
theorem dX11_turns_89 : decode cX11_turns 89 = .ok (.iload 4, 2) := by decide +kernel
theorem dX11_turns_91 : decode cX11_turns 91 = .ok (.ireturn, 1) := by decide +kernel
theorem dX11_turns_92 : decode cX11_turns 92 = .ok (.iinc 4 1, 3) := by decide +kernel
theorem dX11_turns_95 : decode cX11_turns 95 = .ok (.goto (-33), 3) := by decide +kernel
theorem dX11_turns_98 : decode cX11_turns 98 = .ok (.iconst (-1), 1) := by decide +kernel
theorem dX11_turns_99 : decode cX11_turns 99 = .ok (.ireturn, 1) := by decide +kernel
theorem dX11_girl_0 : decode cX11_girl 0 = .ok (.aload_n 0, 1) := by decide +kernel
theorem dX11_girl_1 : decode cX11_girl 1 = .ok (.getfield 10, 3) := by decide +kernel
theorem dX11_girl_4 : decode cX11_girl 4 = .ok (.getfield 156, 3) := by decide +kernel
theorem dX11_girl_7 : decode cX11_girl 7 = .ok (.iload_n 1, 1) := by decide +kernel
theorem dX11_girl_8 : decode cX11_girl 8 = .ok (.invokevirtual 196, 3) := by decide +kernel
theorem dX11_girl_11 : decode cX11_girl 11 = .ok (.ifCond .ne 6, 3) := by decide +kernel
theorem dX11_girl_14 : decode cX11_girl 14 = .ok (.bipush (-2), 2) := by decide +kernel
theorem dX11_girl_16 : decode cX11_girl 16 = .ok (.ireturn, 1) := by decide +kernel
theorem dX11_girl_17 : decode cX11_girl 17 = .ok (.aload_n 0, 1) := by decide +kernel
theorem dX11_girl_18 : decode cX11_girl 18 = .ok (.getfield 10, 3) := by decide +kernel
theorem dX11_girl_21 : decode cX11_girl 21 = .ok (.getfield 156, 3) := by decide +kernel
theorem dX11_girl_24 : decode cX11_girl 24 = .ok (.getfield 225, 3) := by decide +kernel
theorem dX11_girl_27 : decode cX11_girl 27 = .ok (.istore_n 2, 1) := by decide +kernel
theorem dX11_girl_28 : decode cX11_girl 28 = .ok (.aload_n 0, 1) := by decide +kernel
theorem dX11_girl_29 : decode cX11_girl 29 = .ok (.getfield 10, 3) := by decide +kernel
theorem dX11_girl_32 : decode cX11_girl 32 = .ok (.getfield 156, 3) := by decide +kernel
theorem dX11_girl_35 : decode cX11_girl 35 = .ok (.iload_n 1, 1) := by decide +kernel
theorem dX11_girl_36 : decode cX11_girl 36 = .ok (.putfield 225, 3) := by decide +kernel
theorem dX11_girl_39 : decode cX11_girl 39 = .ok (.iload_n 2, 1) := by decide +kernel
theorem dX11_girl_40 : decode cX11_girl 40 = .ok (.ireturn, 1) := by decide +kernel
theorem dX11_gets_0 : decode cX11_gets 0 = .ok (.aload_n 0, 1) := by decide +kernel
theorem dX11_gets_1 : decode cX11_gets 1 = .ok (.getfield 10, 3) := by decide +kernel
theorem dX11_gets_4 : decode cX11_gets 4 = .ok (.getfield 156, 3) := by decide +kernel
theorem dX11_gets_7 : decode cX11_gets 7 = .ok (.aload_n 0, 1) := by decide +kernel
theorem dX11_gets_8 : decode cX11_gets 8 = .ok (.getfield 10, 3) := by decide +kernel
theorem dX11_gets_11 : decode cX11_gets 11 = .ok (.getfield 156, 3) := by decide +kernel
theorem dX11_gets_14 : decode cX11_gets 14 = .ok (.getfield 225, 3) := by decide +kernel
theorem dX11_gets_17 : decode cX11_gets 17 = .ok (.invokevirtual 228, 3) := by decide +kernel
theorem dX11_gets_20 : decode cX11_gets 20 = .ok (.ireturn, 1) := by decide +kernel
theorem dX11_share_0 : decode cX11_share 0 = .ok (.aload_n 0, 1) := by decide +kernel
theorem dX11_share_1 : decode cX11_share 1 = .ok (.getfield 10, 3) := by decide +kernel
theorem dX11_share_4 : decode cX11_share 4 = .ok (.getfield 156, 3) := by decide +kernel
theorem dX11_share_7 : decode cX11_share 7 = .ok (.astore_n 1, 1) := by decide +kernel
theorem dX11_share_8 : decode cX11_share 8 = .ok (.aload_n 1, 1) := by decide +kernel
theorem dX11_share_9 : decode cX11_share 9 = .ok (.getfield 202, 3) := by decide +kernel
theorem dX11_share_12 : decode cX11_share 12 = .ok (.ifCond .ne 6, 3) := by decide +kernel
theorem dX11_share_15 : decode cX11_share 15 = .ok (.bipush (-3), 2) := by decide +kernel
theorem dX11_share_17 : decode cX11_share 17 = .ok (.ireturn, 1) := by decide +kernel
theorem dX11_share_18 : decode cX11_share 18 = .ok (.aload_n 0, 1) := by decide +kernel
theorem dX11_share_19 : decode cX11_share 19 = .ok (.getfield 66, 3) := by decide +kernel
theorem dX11_share_22 : decode cX11_share 22 = .ok (.aload_n 1, 1) := by decide +kernel
theorem dX11_share_23 : decode cX11_share 23 = .ok (.aload_n 1, 1) := by decide +kernel
theorem dX11_share_24 : decode cX11_share 24 = .ok (.aload_n 1, 1) := by decide +kernel
theorem dX11_share_25 : decode cX11_share 25 = .ok (.getfield 225, 3) := by decide +kernel
theorem dX11_share_28 : decode cX11_share 28 = .ok (.invokevirtual 228, 3) := by decide +kernel
theorem dX11_share_31 : decode cX11_share 31 = .ok (.invokevirtual 231, 3) := by decide +kernel
theorem dX11_share_34 : decode cX11_share 34 = .ok (.aload_n 1, 1) := by decide +kernel
theorem dX11_share_35 : decode cX11_share 35 = .ok (.aload_n 1, 1) := by decide +kernel
theorem dX11_share_36 : decode cX11_share 36 = .ok (.invokevirtual 234, 3) := by decide +kernel
theorem dX11_share_39 : decode cX11_share 39 = .ok (.invokevirtual 231, 3) := by decide +kernel
theorem dX11_share_42 : decode cX11_share 42 = .ok (.invokevirtual 237, 3) := by decide +kernel
theorem dX11_share_45 : decode cX11_share 45 = .ok (.iconst 1, 1) := by decide +kernel
theorem dX11_share_46 : decode cX11_share 46 = .ok (.ireturn, 1) := by decide +kernel
theorem dX11_teach_0 : decode cX11_teach 0 = .ok (.iload_n 1, 1) := by decide +kernel
theorem dX11_teach_1 : decode cX11_teach 1 = .ok (.iconst 0, 1) := by decide +kernel
theorem dX11_teach_2 : decode cX11_teach 2 = .ok (.aload_n 0, 1) := by decide +kernel
theorem dX11_teach_3 : decode cX11_teach 3 = .ok (.getfield 10, 3) := by decide +kernel
theorem dX11_teach_6 : decode cX11_teach 6 = .ok (.getfield 156, 3) := by decide +kernel
theorem dX11_teach_9 : decode cX11_teach 9 = .ok (.getfield 202, 3) := by decide +kernel
theorem dX11_teach_12 : decode cX11_teach 12 = .ok (.aload_n 0, 1) := by decide +kernel
theorem dX11_teach_13 : decode cX11_teach 13 = .ok (.getfield 10, 3) := by decide +kernel
theorem dX11_teach_16 : decode cX11_teach 16 = .ok (.getfield 156, 3) := by decide +kernel
theorem dX11_teach_19 : decode cX11_teach 19 = .ok (.getfield 225, 3) := by decide +kernel
theorem dX11_teach_22 : decode cX11_teach 22 = .ok (.invokestatic 241, 3) := by decide +kernel
theorem dX11_teach_25 : decode cX11_teach 25 = .ok (.isub, 1) := by decide +kernel
theorem dX11_teach_26 : decode cX11_teach 26 = .ok (.invokestatic 98, 3) := by decide +kernel
theorem dX11_teach_29 : decode cX11_teach 29 = .ok (.ifCond .ne 6, 3) := by decide +kernel
theorem dX11_teach_32 : decode cX11_teach 32 = .ok (.bipush (-2), 2) := by decide +kernel
theorem dX11_teach_34 : decode cX11_teach 34 = .ok (.ireturn, 1) := by decide +kernel
theorem dX11_teach_35 : decode cX11_teach 35 = .ok (.aload_n 0, 1) := by decide +kernel
theorem dX11_teach_36 : decode cX11_teach 36 = .ok (.getfield 10, 3) := by decide +kernel
theorem dX11_teach_39 : decode cX11_teach 39 = .ok (.getfield 156, 3) := by decide +kernel
theorem dX11_teach_42 : decode cX11_teach 42 = .ok (.iload_n 1, 1) := by decide +kernel
theorem dX11_teach_43 : decode cX11_teach 43 = .ok (.invokevirtual 246, 3) := by decide +kernel
theorem dX11_teach_46 : decode cX11_teach 46 = .ok (.ireturn, 1) := by decide +kernel
theorem dX11_band_0 : decode cX11_band 0 = .ok (.iload_n 1, 1) := by decide +kernel
theorem dX11_band_1 : decode cX11_band 1 = .ok (.iconst 0, 1) := by decide +kernel
theorem dX11_band_2 : decode cX11_band 2 = .ok (.iconst 5, 1) := by decide +kernel
theorem dX11_band_3 : decode cX11_band 3 = .ok (.invokestatic 98, 3) := by decide +kernel
theorem dX11_band_6 : decode cX11_band 6 = .ok (.ifCond .eq 23, 3) := by decide +kernel
theorem dX11_band_9 : decode cX11_band 9 = .ok (.iload_n 2, 1) := by decide +kernel
theorem dX11_band_10 : decode cX11_band 10 = .ok (.iconst 0, 1) := by decide +kernel
theorem dX11_band_11 : decode cX11_band 11 = .ok (.bipush 99, 2) := by decide +kernel
theorem dX11_band_13 : decode cX11_band 13 = .ok (.invokestatic 98, 3) := by decide +kernel
theorem dX11_band_16 : decode cX11_band 16 = .ok (.ifCond .eq 13, 3) := by decide +kernel
theorem dX11_band_19 : decode cX11_band 19 = .ok (.iload_n 3, 1) := by decide +kernel
theorem dX11_band_20 : decode cX11_band 20 = .ok (.iconst 0, 1) := by decide +kernel
theorem dX11_band_21 : decode cX11_band 21 = .ok (.bipush 9, 2) := by decide +kernel
theorem dX11_band_23 : decode cX11_band 23 = .ok (.invokestatic 98, 3) := by decide +kernel
theorem dX11_band_26 : decode cX11_band 26 = .ok (.ifCond .ne 6, 3) := by decide +kernel
theorem dX11_band_29 : decode cX11_band 29 = .ok (.bipush (-2), 2) := by decide +kernel
theorem dX11_band_31 : decode cX11_band 31 = .ok (.ireturn, 1) := by decide +kernel
theorem dX11_band_32 : decode cX11_band 32 = .ok (.aload_n 0, 1) := by decide +kernel
theorem dX11_band_33 : decode cX11_band 33 = .ok (.getfield 10, 3) := by decide +kernel
theorem dX11_band_36 : decode cX11_band 36 = .ok (.getfield 249, 3) := by decide +kernel
theorem dX11_band_39 : decode cX11_band 39 = .ok (.iload_n 1, 1) := by decide +kernel
theorem dX11_band_40 : decode cX11_band 40 = .ok (.iload_n 2, 1) := by decide +kernel
theorem dX11_band_41 : decode cX11_band 41 = .ok (.iastore, 1) := by decide +kernel
theorem dX11_band_42 : decode cX11_band 42 = .ok (.aload_n 0, 1) := by decide +kernel
theorem dX11_band_43 : decode cX11_band 43 = .ok (.getfield 10, 3) := by decide +kernel
theorem dX11_band_46 : decode cX11_band 46 = .ok (.getfield 252, 3) := by decide +kernel
theorem dX11_band_49 : decode cX11_band 49 = .ok (.iload_n 1, 1) := by decide +kernel
theorem dX11_band_50 : decode cX11_band 50 = .ok (.iload_n 3, 1) := by decide +kernel
theorem dX11_band_51 : decode cX11_band 51 = .ok (.iastore, 1) := by decide +kernel
theorem dX11_band_52 : decode cX11_band 52 = .ok (.iconst 1, 1) := by decide +kernel
theorem dX11_band_53 : decode cX11_band 53 = .ok (.ireturn, 1) := by decide +kernel
theorem dX11_heard_0 : decode cX11_heard 0 = .ok (.iload_n 1, 1) := by decide +kernel
theorem dX11_heard_1 : decode cX11_heard 1 = .ok (.iconst 0, 1) := by decide +kernel
theorem dX11_heard_2 : decode cX11_heard 2 = .ok (.bipush 60, 2) := by decide +kernel
theorem dX11_heard_4 : decode cX11_heard 4 = .ok (.invokestatic 98, 3) := by decide +kernel
theorem dX11_heard_7 : decode cX11_heard 7 = .ok (.ifCond .eq 13, 3) := by decide +kernel
theorem dX11_heard_10 : decode cX11_heard 10 = .ok (.iload_n 2, 1) := by decide +kernel
theorem dX11_heard_11 : decode cX11_heard 11 = .ok (.iconst 0, 1) := by decide +kernel
theorem dX11_heard_12 : decode cX11_heard 12 = .ok (.bipush 99, 2) := by decide +kernel
theorem dX11_heard_14 : decode cX11_heard 14 = .ok (.invokestatic 98, 3) := by decide +kernel
theorem dX11_heard_17 : decode cX11_heard 17 = .ok (.ifCond .ne 6, 3) := by decide +kernel
theorem dX11_heard_20 : decode cX11_heard 20 = .ok (.bipush (-2), 2) := by decide +kernel
theorem dX11_heard_22 : decode cX11_heard 22 = .ok (.ireturn, 1) := by decide +kernel
theorem dX11_heard_23 : decode cX11_heard 23 = .ok (.iconst 0, 1) := by decide +kernel
theorem dX11_heard_24 : decode cX11_heard 24 = .ok (.istore_n 3, 1) := by decide +kernel
theorem dX11_heard_25 : decode cX11_heard 25 = .ok (.iconst 0, 1) := by decide +kernel
theorem dX11_heard_26 : decode cX11_heard 26 = .ok (.istore 4, 2) := by decide +kernel
theorem dX11_heard_28 : decode cX11_heard 28 = .ok (.iload 4, 2) := by decide +kernel
theorem dX11_heard_30 : decode cX11_heard 30 = .ok (.bipush 6, 2) := by decide +kernel
theorem dX11_heard_32 : decode cX11_heard 32 = .ok (.if_icmp .ge 43, 3) := by decide +kernel
theorem dX11_heard_35 : decode cX11_heard 35 = .ok (.aload_n 0, 1) := by decide +kernel
theorem dX11_heard_36 : decode cX11_heard 36 = .ok (.getfield 10, 3) := by decide +kernel
theorem dX11_heard_39 : decode cX11_heard 39 = .ok (.getfield 249, 3) := by decide +kernel
theorem dX11_heard_42 : decode cX11_heard 42 = .ok (.iload 4, 2) := by decide +kernel
theorem dX11_heard_44 : decode cX11_heard 44 = .ok (.iaload, 1) := by decide +kernel
theorem dX11_heard_45 : decode cX11_heard 45 = .ok (.aload_n 0, 1) := by decide +kernel
theorem dX11_heard_46 : decode cX11_heard 46 = .ok (.getfield 10, 3) := by decide +kernel
theorem dX11_heard_49 : decode cX11_heard 49 = .ok (.getfield 252, 3) := by decide +kernel
theorem dX11_heard_52 : decode cX11_heard 52 = .ok (.iload 4, 2) := by decide +kernel
theorem dX11_heard_54 : decode cX11_heard 54 = .ok (.iaload, 1) := by decide +kernel
theorem dX11_heard_55 : decode cX11_heard 55 = .ok (.iload_n 1, 1) := by decide +kernel
theorem dX11_heard_56 : decode cX11_heard 56 = .ok (.imul, 1) := by decide +kernel
theorem dX11_heard_57 : decode cX11_heard 57 = .ok (.isub, 1) := by decide +kernel
theorem dX11_heard_58 : decode cX11_heard 58 = .ok (.iload_n 2, 1) := by decide +kernel
theorem dX11_heard_59 : decode cX11_heard 59 = .ok (.if_icmp .le 10, 3) := by decide +kernel
theorem dX11_heard_62 : decode cX11_heard 62 = .ok (.iload_n 3, 1) := by decide +kernel
theorem dX11_heard_63 : decode cX11_heard 63 = .ok (.iconst 1, 1) := by decide +kernel
theorem dX11_heard_64 : decode cX11_heard 64 = .ok (.iload 4, 2) := by decide +kernel
theorem dX11_heard_66 : decode cX11_heard 66 = .ok (.ishl, 1) := by decide +kernel
theorem dX11_heard_67 : decode cX11_heard 67 = .ok (.ior, 1) := by decide +kernel
theorem dX11_heard_68 : decode cX11_heard 68 = .ok (.istore_n 3, 1) := by decide +kernel
theorem dX11_heard_69 : decode cX11_heard 69 = .ok (.iinc 4 1, 3) := by decide +kernel
theorem dX11_heard_72 : decode cX11_heard 72 = .ok (.goto (-44), 3) := by decide +kernel
theorem dX11_heard_75 : decode cX11_heard 75 = .ok (.iload_n 3, 1) := by decide +kernel
theorem dX11_heard_76 : decode cX11_heard 76 = .ok (.ireturn, 1) := by decide +kernel
theorem dX11_anew_0 : decode cX11_anew 0 = .ok (.iload_n 1, 1) := by decide +kernel
theorem dX11_anew_1 : decode cX11_anew 1 = .ok (.iconst 0, 1) := by decide +kernel
theorem dX11_anew_2 : decode cX11_anew 2 = .ok (.iconst 1, 1) := by decide +kernel
theorem dX11_anew_3 : decode cX11_anew 3 = .ok (.invokestatic 98, 3) := by decide +kernel
theorem dX11_anew_6 : decode cX11_anew 6 = .ok (.ifCond .eq 23, 3) := by decide +kernel
theorem dX11_anew_9 : decode cX11_anew 9 = .ok (.iload_n 2, 1) := by decide +kernel
theorem dX11_anew_10 : decode cX11_anew 10 = .ok (.iconst (-1), 1) := by decide +kernel
theorem dX11_anew_11 : decode cX11_anew 11 = .ok (.aload_n 0, 1) := by decide +kernel
theorem dX11_anew_12 : decode cX11_anew 12 = .ok (.getfield 10, 3) := by decide +kernel
theorem dX11_anew_15 : decode cX11_anew 15 = .ok (.getfield 70, 3) := by decide +kernel
theorem dX11_anew_18 : decode cX11_anew 18 = .ok (.getfield 144, 3) := by decide +kernel
theorem dX11_anew_21 : decode cX11_anew 21 = .ok (.iconst 1, 1) := by decide +kernel
theorem dX11_anew_22 : decode cX11_anew 22 = .ok (.isub, 1) := by decide +kernel
theorem dX11_anew_23 : decode cX11_anew 23 = .ok (.invokestatic 98, 3) := by decide +kernel
theorem dX11_anew_26 : decode cX11_anew 26 = .ok (.ifCond .ne 6, 3) := by decide +kernel
theorem dX11_anew_29 : decode cX11_anew 29 = .ok (.bipush (-10), 2) := by decide +kernel
theorem dX11_anew_31 : decode cX11_anew 31 = .ok (.ireturn, 1) := by decide +kernel
theorem dX11_anew_32 : decode cX11_anew 32 = .ok (.aload_n 0, 1) := by decide +kernel
theorem dX11_anew_33 : decode cX11_anew 33 = .ok (.getfield 10, 3) := by decide +kernel
theorem dX11_anew_36 : decode cX11_anew 36 = .ok (.getfield 70, 3) := by decide +kernel
theorem dX11_anew_39 : decode cX11_anew 39 = .ok (.getfield 144, 3) := by decide +kernel
theorem dX11_anew_42 : decode cX11_anew 42 = .ok (.bipush 6, 2) := by decide +kernel
theorem dX11_anew_44 : decode cX11_anew 44 = .ok (.if_icmp .le 6, 3) := by decide +kernel
theorem dX11_anew_47 : decode cX11_anew 47 = .ok (.bipush (-20), 2) := by decide +kernel
theorem dX11_anew_49 : decode cX11_anew 49 = .ok (.ireturn, 1) := by decide +kernel
theorem dX11_anew_50 : decode cX11_anew 50 = .ok (.aload_n 0, 1) := by decide +kernel
theorem dX11_anew_51 : decode cX11_anew 51 = .ok (.getfield 52, 3) := by decide +kernel
theorem dX11_anew_54 : decode cX11_anew 54 = .ok (.aload_n 0, 1) := by decide +kernel
theorem dX11_anew_55 : decode cX11_anew 55 = .ok (.getfield 10, 3) := by decide +kernel
theorem dX11_anew_58 : decode cX11_anew 58 = .ok (.getfield 70, 3) := by decide +kernel
theorem dX11_anew_61 : decode cX11_anew 61 = .ok (.iload_n 1, 1) := by decide +kernel
theorem dX11_anew_62 : decode cX11_anew 62 = .ok (.iconst 1, 1) := by decide +kernel
theorem dX11_anew_63 : decode cX11_anew 63 = .ok (.if_icmp .ne 7, 3) := by decide +kernel
theorem dX11_anew_66 : decode cX11_anew 66 = .ok (.iconst 1, 1) := by decide +kernel
theorem dX11_anew_67 : decode cX11_anew 67 = .ok (.goto 4, 3) := by decide +kernel
theorem dX11_anew_70 : decode cX11_anew 70 = .ok (.iconst 0, 1) := by decide +kernel
theorem dX11_anew_71 : decode cX11_anew 71 = .ok (.invokevirtual 255, 3) := by decide +kernel
theorem dX11_anew_74 : decode cX11_anew 74 = .ok (.iload_n 2, 1) := by decide +kernel
theorem dX11_anew_75 : decode cX11_anew 75 = .ok (.iconst (-1), 1) := by decide +kernel
theorem dX11_anew_76 : decode cX11_anew 76 = .ok (.if_icmp .ne 13, 3) := by decide +kernel
theorem dX11_anew_79 : decode cX11_anew 79 = .ok (.aload_n 0, 1) := by decide +kernel
theorem dX11_anew_80 : decode cX11_anew 80 = .ok (.getfield 52, 3) := by decide +kernel
theorem dX11_anew_83 : decode cX11_anew 83 = .ok (.getfield 259, 3) := by decide +kernel
theorem dX11_anew_86 : decode cX11_anew 86 = .ok (.goto 11, 3) := by decide +kernel
theorem dX11_anew_89 : decode cX11_anew 89 = .ok (.aload_n 0, 1) := by decide +kernel
theorem dX11_anew_90 : decode cX11_anew 90 = .ok (.getfield 52, 3) := by decide +kernel
theorem dX11_anew_93 : decode cX11_anew 93 = .ok (.iload_n 2, 1) := by decide +kernel
theorem dX11_anew_94 : decode cX11_anew 94 = .ok (.invokevirtual 262, 3) := by decide +kernel
theorem dX11_anew_97 : decode cX11_anew 97 = .ok (.ireturn, 1) := by decide +kernel
theorem dX11_type_0 : decode cX11_type 0 = .ok (.aload_n 0, 1) := by decide +kernel
theorem dX11_type_1 : decode cX11_type 1 = .ok (.getfield 59, 3) := by decide +kernel
theorem dX11_type_4 : decode cX11_type 4 = .ok (.lload_n 1, 1) := by decide +kernel
theorem dX11_type_5 : decode cX11_type 5 = .ok (.iload_n 3, 1) := by decide +kernel
theorem dX11_type_6 : decode cX11_type 6 = .ok (.invokevirtual 265, 3) := by decide +kernel
theorem dX11_type_9 : decode cX11_type 9 = .ok (.ireturn, 1) := by decide +kernel
theorem dX11_erase_0 : decode cX11_erase 0 = .ok (.aload_n 0, 1) := by decide +kernel
theorem dX11_erase_1 : decode cX11_erase 1 = .ok (.getfield 59, 3) := by decide +kernel
theorem dX11_erase_4 : decode cX11_erase 4 = .ok (.getfield 268, 3) := by decide +kernel
theorem dX11_erase_7 : decode cX11_erase 7 = .ok (.istore_n 1, 1) := by decide +kernel
theorem dX11_erase_8 : decode cX11_erase 8 = .ok (.aload_n 0, 1) := by decide +kernel
theorem dX11_erase_9 : decode cX11_erase 9 = .ok (.getfield 59, 3) := by decide +kernel
theorem dX11_erase_12 : decode cX11_erase 12 = .ok (.iconst 0, 1) := by decide +kernel
theorem dX11_erase_13 : decode cX11_erase 13 = .ok (.putfield 268, 3) := by decide +kernel
theorem dX11_erase_16 : decode cX11_erase 16 = .ok (.iload_n 1, 1) := by decide +kernel
theorem dX11_erase_17 : decode cX11_erase 17 = .ok (.ireturn, 1) := by decide +kernel
theorem dX11_shed_0 : decode cX11_shed 0 = .ok (.aload_n 0, 1) := by decide +kernel
theorem dX11_shed_1 : decode cX11_shed 1 = .ok (.getfield 59, 3) := by decide +kernel
theorem dX11_shed_4 : decode cX11_shed 4 = .ok (.invokevirtual 271, 3) := by decide +kernel
theorem dX11_shed_7 : decode cX11_shed 7 = .ok (.istore_n 1, 1) := by decide +kernel
theorem dX11_shed_8 : decode cX11_shed 8 = .ok (.iload_n 1, 1) := by decide +kernel
theorem dX11_shed_9 : decode cX11_shed 9 = .ok (.iconst (-1), 1) := by decide +kernel
theorem dX11_shed_10 : decode cX11_shed 10 = .ok (.if_icmp .eq 8, 3) := by decide +kernel
theorem dX11_shed_13 : decode cX11_shed 13 = .ok (.bipush (-10), 2) := by decide +kernel
theorem dX11_shed_15 : decode cX11_shed 15 = .ok (.iload_n 1, 1) := by decide +kernel
theorem dX11_shed_16 : decode cX11_shed 16 = .ok (.isub, 1) := by decide +kernel
theorem dX11_shed_17 : decode cX11_shed 17 = .ok (.ireturn, 1) := by decide +kernel
theorem dX11_shed_18 : decode cX11_shed 18 = .ok (.aload_n 0, 1) := by decide +kernel
theorem dX11_shed_19 : decode cX11_shed 19 = .ok (.getfield 16, 3) := by decide +kernel
theorem dX11_shed_22 : decode cX11_shed 22 = .ok (.aload_n 0, 1) := by decide +kernel
theorem dX11_shed_23 : decode cX11_shed 23 = .ok (.getfield 10, 3) := by decide +kernel
theorem dX11_shed_26 : decode cX11_shed 26 = .ok (.invokevirtual 274, 3) := by decide +kernel
theorem dX11_shed_29 : decode cX11_shed 29 = .ok (.aload_n 0, 1) := by decide +kernel
theorem dX11_shed_30 : decode cX11_shed 30 = .ok (.getfield 16, 3) := by decide +kernel
theorem dX11_shed_33 : decode cX11_shed 33 = .ok (.invokevirtual 278, 3) := by decide +kernel
theorem dX11_shed_36 : decode cX11_shed 36 = .ok (.iconst 0, 1) := by decide +kernel
theorem dX11_shed_37 : decode cX11_shed 37 = .ok (.istore_n 2, 1) := by decide +kernel
theorem dX11_shed_38 : decode cX11_shed 38 = .ok (.iload_n 2, 1) := by decide +kernel
theorem dX11_shed_39 : decode cX11_shed 39 = .ok (.aload_n 0, 1) := by decide +kernel
theorem dX11_shed_40 : decode cX11_shed 40 = .ok (.getfield 59, 3) := by decide +kernel
theorem dX11_shed_43 : decode cX11_shed 43 = .ok (.getfield 281, 3) := by decide +kernel
theorem dX11_shed_46 : decode cX11_shed 46 = .ok (.if_icmp .ge 30, 3) := by decide +kernel
theorem dX11_shed_49 : decode cX11_shed 49 = .ok (.aload_n 0, 1) := by decide +kernel
theorem dX11_shed_50 : decode cX11_shed 50 = .ok (.getfield 59, 3) := by decide +kernel
theorem dX11_shed_53 : decode cX11_shed 53 = .ok (.iload_n 2, 1) := by decide +kernel
theorem dX11_shed_54 : decode cX11_shed 54 = .ok (.aload_n 0, 1) := by decide +kernel
theorem dX11_shed_55 : decode cX11_shed 55 = .ok (.getfield 16, 3) := by decide +kernel
theorem dX11_shed_58 : decode cX11_shed 58 = .ok (.invokevirtual 284, 3) := by decide +kernel
theorem dX11_shed_61 : decode cX11_shed 61 = .ok (.ifCond .ge 9, 3) := by decide +kernel
theorem dX11_shed_64 : decode cX11_shed 64 = .ok (.sipush (-1000), 3) := by decide +kernel
theorem dX11_shed_67 : decode cX11_shed 67 = .ok (.iload_n 2, 1) := by decide +kernel
theorem dX11_shed_68 : decode cX11_shed 68 = .ok (.isub, 1) := by decide +kernel
theorem dX11_shed_69 : decode cX11_shed 69 = .ok (.ireturn, 1) := by decide +kernel
theorem dX11_shed_70 : decode cX11_shed 70 = .ok (.iinc 2 1, 3) := by decide +kernel
theorem dX11_shed_73 : decode cX11_shed 73 = .ok (.goto (-35), 3) := by decide +kernel
theorem dX11_shed_76 : decode cX11_shed 76 = .ok (.aload_n 0, 1) := by decide +kernel
theorem dX11_shed_77 : decode cX11_shed 77 = .ok (.getfield 10, 3) := by decide +kernel
theorem dX11_shed_80 : decode cX11_shed 80 = .ok (.aload_n 0, 1) := by decide +kernel
theorem dX11_shed_81 : decode cX11_shed 81 = .ok (.getfield 16, 3) := by decide +kernel
theorem dX11_shed_84 : decode cX11_shed 84 = .ok (.invokevirtual 274, 3) := by decide +kernel
theorem dX11_shed_87 : decode cX11_shed 87 = .ok (.aload_n 0, 1) := by decide +kernel
theorem dX11_shed_88 : decode cX11_shed 88 = .ok (.getfield 59, 3) := by decide +kernel
theorem dX11_shed_91 : decode cX11_shed 91 = .ok (.getfield 281, 3) := by decide +kernel
theorem dX11_shed_94 : decode cX11_shed 94 = .ok (.ireturn, 1) := by decide +kernel
theorem dX11_sign_0 : decode cX11_sign 0 = .ok (.iload_n 1, 1) := by decide +kernel
theorem dX11_sign_1 : decode cX11_sign 1 = .ok (.tableswitch 57 0 2 #[27, 35, 46], 27) := by decide +kernel
theorem dX11_sign_28 : decode cX11_sign 28 = .ok (.aload_n 0, 1) := by decide +kernel
theorem dX11_sign_29 : decode cX11_sign 29 = .ok (.getfield 66, 3) := by decide +kernel
theorem dX11_sign_32 : decode cX11_sign 32 = .ok (.invokevirtual 288, 3) := by decide +kernel
theorem dX11_sign_35 : decode cX11_sign 35 = .ok (.ireturn, 1) := by decide +kernel
theorem dX11_sign_36 : decode cX11_sign 36 = .ok (.aload_n 0, 1) := by decide +kernel
theorem dX11_sign_37 : decode cX11_sign 37 = .ok (.getfield 66, 3) := by decide +kernel
theorem dX11_sign_40 : decode cX11_sign 40 = .ok (.getfield 291, 3) := by decide +kernel
theorem dX11_sign_43 : decode cX11_sign 43 = .ok (.getfield 295, 3) := by decide +kernel
theorem dX11_sign_46 : decode cX11_sign 46 = .ok (.ireturn, 1) := by decide +kernel
theorem dX11_sign_47 : decode cX11_sign 47 = .ok (.aload_n 0, 1) := by decide +kernel
theorem dX11_sign_48 : decode cX11_sign 48 = .ok (.getfield 66, 3) := by decide +kernel
theorem dX11_sign_51 : decode cX11_sign 51 = .ok (.getfield 300, 3) := by decide +kernel
theorem dX11_sign_54 : decode cX11_sign 54 = .ok (.getfield 295, 3) := by decide +kernel
theorem dX11_sign_57 : decode cX11_sign 57 = .ok (.ireturn, 1) := by decide +kernel
theorem dX11_sign_58 : decode cX11_sign 58 = .ok (.bipush (-2), 2) := by decide +kernel
theorem dX11_sign_60 : decode cX11_sign 60 = .ok (.ireturn, 1) := by decide +kernel
theorem dX11_limb_0 : decode cX11_limb 0 = .ok (.iload_n 1, 1) := by decide +kernel
theorem dX11_limb_1 : decode cX11_limb 1 = .ok (.iconst 0, 1) := by decide +kernel
theorem dX11_limb_2 : decode cX11_limb 2 = .ok (.iconst 1, 1) := by decide +kernel
theorem dX11_limb_3 : decode cX11_limb 3 = .ok (.invokestatic 98, 3) := by decide +kernel
theorem dX11_limb_6 : decode cX11_limb 6 = .ok (.ifCond .eq 7, 3) := by decide +kernel
theorem dX11_limb_9 : decode cX11_limb 9 = .ok (.iload_n 2, 1) := by decide +kernel
theorem dX11_limb_10 : decode cX11_limb 10 = .ok (.ifCond .ge 6, 3) := by decide +kernel
theorem dX11_limb_13 : decode cX11_limb 13 = .ok (.bipush (-2), 2) := by decide +kernel
theorem dX11_limb_15 : decode cX11_limb 15 = .ok (.ireturn, 1) := by decide +kernel
theorem dX11_limb_16 : decode cX11_limb 16 = .ok (.iload_n 1, 1) := by decide +kernel
theorem dX11_limb_17 : decode cX11_limb 17 = .ok (.ifCond .ne 17, 3) := by decide +kernel
theorem dX11_limb_20 : decode cX11_limb 20 = .ok (.aload_n 0, 1) := by decide +kernel
theorem dX11_limb_21 : decode cX11_limb 21 = .ok (.getfield 66, 3) := by decide +kernel
theorem dX11_limb_24 : decode cX11_limb 24 = .ok (.getfield 291, 3) := by decide +kernel
theorem dX11_limb_27 : decode cX11_limb 27 = .ok (.iload_n 2, 1) := by decide +kernel
theorem dX11_limb_28 : decode cX11_limb 28 = .ok (.invokevirtual 303, 3) := by decide +kernel
theorem dX11_limb_31 : decode cX11_limb 31 = .ok (.goto 14, 3) := by decide +kernel
theorem dX11_limb_34 : decode cX11_limb 34 = .ok (.aload_n 0, 1) := by decide +kernel
theorem dX11_limb_35 : decode cX11_limb 35 = .ok (.getfield 66, 3) := by decide +kernel
theorem dX11_limb_38 : decode cX11_limb 38 = .ok (.getfield 300, 3) := by decide +kernel
theorem dX11_limb_41 : decode cX11_limb 41 = .ok (.iload_n 2, 1) := by decide +kernel
theorem dX11_limb_42 : decode cX11_limb 42 = .ok (.invokevirtual 303, 3) := by decide +kernel
theorem dX11_limb_45 : decode cX11_limb 45 = .ok (.ireturn, 1) := by decide +kernel
theorem dX11_image_0 : decode cX11_image 0 = .ok (.iload_n 1, 1) := by decide +kernel
theorem dX11_image_1 : decode cX11_image 1 = .ok (.iconst 0, 1) := by decide +kernel
theorem dX11_image_2 : decode cX11_image 2 = .ok (.iconst 1, 1) := by decide +kernel
theorem dX11_image_3 : decode cX11_image 3 = .ok (.invokestatic 98, 3) := by decide +kernel
theorem dX11_image_6 : decode cX11_image 6 = .ok (.ifCond .ne 6, 3) := by decide +kernel
theorem dX11_image_9 : decode cX11_image 9 = .ok (.bipush (-2), 2) := by decide +kernel
theorem dX11_image_11 : decode cX11_image 11 = .ok (.ireturn, 1) := by decide +kernel
theorem dX11_image_12 : decode cX11_image 12 = .ok (.aload_n 0, 1) := by decide +kernel
theorem dX11_image_13 : decode cX11_image 13 = .ok (.iload_n 1, 1) := by decide +kernel
theorem dX11_image_14 : decode cX11_image 14 = .ok (.invokevirtual 306, 3) := by decide +kernel
theorem dX11_image_17 : decode cX11_image 17 = .ok (.astore_n 2, 1) := by decide +kernel
theorem dX11_image_18 : decode cX11_image 18 = .ok (.aload_n 2, 1) := by decide +kernel
theorem dX11_image_19 : decode cX11_image 19 = .ok (.aload_n 0, 1) := by decide +kernel
theorem dX11_image_20 : decode cX11_image 20 = .ok (.getfield 10, 3) := by decide +kernel
theorem dX11_image_23 : decode cX11_image 23 = .ok (.invokevirtual 274, 3) := by decide +kernel
theorem dX11_image_26 : decode cX11_image 26 = .ok (.aload_n 2, 1) := by decide +kernel
theorem dX11_image_27 : decode cX11_image 27 = .ok (.iconst 1, 1) := by decide +kernel
theorem dX11_image_28 : decode cX11_image 28 = .ok (.putfield 310, 3) := by decide +kernel
theorem dX11_image_31 : decode cX11_image 31 = .ok (.iconst 1, 1) := by decide +kernel
theorem dX11_image_32 : decode cX11_image 32 = .ok (.ireturn, 1) := by decide +kernel
theorem dX11_from_0 : decode cX11_from 0 = .ok (.iload_n 1, 1) := by decide +kernel
theorem dX11_from_1 : decode cX11_from 1 = .ok (.iconst 0, 1) := by decide +kernel
theorem dX11_from_2 : decode cX11_from 2 = .ok (.iconst 1, 1) := by decide +kernel
theorem dX11_from_3 : decode cX11_from 3 = .ok (.invokestatic 98, 3) := by decide +kernel
theorem dX11_from_6 : decode cX11_from 6 = .ok (.ifCond .ne 6, 3) := by decide +kernel
theorem dX11_from_9 : decode cX11_from 9 = .ok (.bipush (-2), 2) := by decide +kernel
theorem dX11_from_11 : decode cX11_from 11 = .ok (.ireturn, 1) := by decide +kernel
theorem dX11_from_12 : decode cX11_from 12 = .ok (.aload_n 0, 1) := by decide +kernel
theorem dX11_from_13 : decode cX11_from 13 = .ok (.iload_n 1, 1) := by decide +kernel
theorem dX11_from_14 : decode cX11_from 14 = .ok (.invokevirtual 306, 3) := by decide +kernel
theorem dX11_from_17 : decode cX11_from 17 = .ok (.astore_n 2, 1) := by decide +kernel
theorem dX11_from_18 : decode cX11_from 18 = .ok (.aload_n 2, 1) := by decide +kernel
theorem dX11_from_19 : decode cX11_from 19 = .ok (.getfield 310, 3) := by decide +kernel
theorem dX11_from_22 : decode cX11_from 22 = .ok (.ifCond .ne 6, 3) := by decide +kernel
theorem dX11_from_25 : decode cX11_from 25 = .ok (.bipush (-3), 2) := by decide +kernel
theorem dX11_from_27 : decode cX11_from 27 = .ok (.ireturn, 1) := by decide +kernel
theorem dX11_from_28 : decode cX11_from 28 = .ok (.aload_n 0, 1) := by decide +kernel
theorem dX11_from_29 : decode cX11_from 29 = .ok (.getfield 10, 3) := by decide +kernel
theorem dX11_from_32 : decode cX11_from 32 = .ok (.aload_n 2, 1) := by decide +kernel
theorem dX11_from_33 : decode cX11_from 33 = .ok (.invokevirtual 274, 3) := by decide +kernel
theorem dX11_from_36 : decode cX11_from 36 = .ok (.iconst 1, 1) := by decide +kernel
theorem dX11_from_37 : decode cX11_from 37 = .ok (.ireturn, 1) := by decide +kernel
theorem dX11_count_0 : decode cX11_count 0 = .ok (.iload_n 1, 1) := by decide +kernel
theorem dX11_count_1 : decode cX11_count 1 = .ok (.tableswitch 105 0 5 #[39, 53, 64, 75, 86, 97], 39) := by decide +kernel
theorem dX11_count_40 : decode cX11_count 40 = .ok (.aload_n 0, 1) := by decide +kernel
theorem dX11_count_41 : decode cX11_count 41 = .ok (.getfield 10, 3) := by decide +kernel
theorem dX11_count_44 : decode cX11_count 44 = .ok (.getfield 70, 3) := by decide +kernel
theorem dX11_count_47 : decode cX11_count 47 = .ok (.getfield 314, 3) := by decide +kernel
theorem dX11_count_50 : decode cX11_count 50 = .ok (.invokestatic 318, 3) := by decide +kernel
theorem dX11_count_53 : decode cX11_count 53 = .ok (.ireturn, 1) := by decide +kernel
theorem dX11_count_54 : decode cX11_count 54 = .ok (.aload_n 0, 1) := by decide +kernel
theorem dX11_count_55 : decode cX11_count 55 = .ok (.getfield 10, 3) := by decide +kernel
theorem dX11_count_58 : decode cX11_count 58 = .ok (.getfield 70, 3) := by decide +kernel
theorem dX11_count_61 : decode cX11_count 61 = .ok (.getfield 144, 3) := by decide +kernel
theorem dX11_count_64 : decode cX11_count 64 = .ok (.ireturn, 1) := by decide +kernel
theorem dX11_count_65 : decode cX11_count 65 = .ok (.aload_n 0, 1) := by decide +kernel
theorem dX11_count_66 : decode cX11_count 66 = .ok (.getfield 10, 3) := by decide +kernel
theorem dX11_count_69 : decode cX11_count 69 = .ok (.getfield 134, 3) := by decide +kernel
theorem dX11_count_72 : decode cX11_count 72 = .ok (.getfield 323, 3) := by decide +kernel
theorem dX11_count_75 : decode cX11_count 75 = .ok (.ireturn, 1) := by decide +kernel
theorem dX11_count_76 : decode cX11_count 76 = .ok (.aload_n 0, 1) := by decide +kernel
theorem dX11_count_77 : decode cX11_count 77 = .ok (.getfield 10, 3) := by decide +kernel
theorem dX11_count_80 : decode cX11_count 80 = .ok (.getfield 156, 3) := by decide +kernel
theorem dX11_count_83 : decode cX11_count 83 = .ok (.getfield 202, 3) := by decide +kernel
theorem dX11_count_86 : decode cX11_count 86 = .ok (.ireturn, 1) := by decide +kernel
theorem dX11_count_87 : decode cX11_count 87 = .ok (.aload_n 0, 1) := by decide +kernel
theorem dX11_count_88 : decode cX11_count 88 = .ok (.getfield 10, 3) := by decide +kernel
theorem dX11_count_91 : decode cX11_count 91 = .ok (.getfield 156, 3) := by decide +kernel
theorem dX11_count_94 : decode cX11_count 94 = .ok (.getfield 178, 3) := by decide +kernel
theorem dX11_count_97 : decode cX11_count 97 = .ok (.ireturn, 1) := by decide +kernel
theorem dX11_count_98 : decode cX11_count 98 = .ok (.aload_n 0, 1) := by decide +kernel
theorem dX11_count_99 : decode cX11_count 99 = .ok (.getfield 59, 3) := by decide +kernel
theorem dX11_count_102 : decode cX11_count 102 = .ok (.getfield 268, 3) := by decide +kernel
theorem dX11_count_105 : decode cX11_count 105 = .ok (.ireturn, 1) := by decide +kernel
theorem dX11_count_106 : decode cX11_count 106 = .ok (.bipush (-2), 2) := by decide +kernel
theorem dX11_count_108 : decode cX11_count 108 = .ok (.ireturn, 1) := by decide +kernel
theorem dX11_digest_0 : decode cX11_digest 0 = .ok (.ldc2_w 326, 3) := by decide +kernel
theorem dX11_digest_3 : decode cX11_digest 3 = .ok (.lstore_n 1, 1) := by decide +kernel
theorem dX11_digest_4 : decode cX11_digest 4 = .ok (.iconst 0, 1) := by decide +kernel
theorem dX11_digest_5 : decode cX11_digest 5 = .ok (.istore_n 3, 1) := by decide +kernel
theorem dX11_digest_6 : decode cX11_digest 6 = .ok (.iload_n 3, 1) := by decide +kernel
theorem dX11_digest_7 : decode cX11_digest 7 = .ok (.iconst 5, 1) := by decide +kernel
theorem dX11_digest_8 : decode cX11_digest 8 = .ok (.if_icmp .gt 19, 3) := by decide +kernel
theorem dX11_digest_11 : decode cX11_digest 11 = .ok (.lload_n 1, 1) := by decide +kernel
theorem dX11_digest_12 : decode cX11_digest 12 = .ok (.aload_n 0, 1) := by decide +kernel
theorem dX11_digest_13 : decode cX11_digest 13 = .ok (.iload_n 3, 1) := by decide +kernel
theorem dX11_digest_14 : decode cX11_digest 14 = .ok (.invokevirtual 328, 3) := by decide +kernel
theorem dX11_digest_17 : decode cX11_digest 17 = .ok (.invokestatic 331, 3) := by decide +kernel
theorem dX11_digest_20 : decode cX11_digest 20 = .ok (.lstore_n 1, 1) := by decide +kernel
theorem dX11_digest_21 : decode cX11_digest 21 = .ok (.iinc 3 1, 3) := by decide +kernel
theorem dX11_digest_24 : decode cX11_digest 24 = .ok (.goto (-18), 3) := by decide +kernel
theorem dX11_digest_27 : decode cX11_digest 27 = .ok (.aload_n 0, 1) := by decide +kernel
theorem dX11_digest_28 : decode cX11_digest 28 = .ok (.getfield 10, 3) := by decide +kernel
theorem dX11_digest_31 : decode cX11_digest 31 = .ok (.getfield 70, 3) := by decide +kernel
theorem dX11_digest_34 : decode cX11_digest 34 = .ok (.lload_n 1, 1) := by decide +kernel
theorem dX11_digest_35 : decode cX11_digest 35 = .ok (.invokevirtual 335, 3) := by decide +kernel
theorem dX11_digest_38 : decode cX11_digest 38 = .ok (.lstore_n 1, 1) := by decide +kernel
theorem dX11_digest_39 : decode cX11_digest 39 = .ok (.aload_n 0, 1) := by decide +kernel
theorem dX11_digest_40 : decode cX11_digest 40 = .ok (.getfield 10, 3) := by decide +kernel
theorem dX11_digest_43 : decode cX11_digest 43 = .ok (.getfield 134, 3) := by decide +kernel
theorem dX11_digest_46 : decode cX11_digest 46 = .ok (.lload_n 1, 1) := by decide +kernel
theorem dX11_digest_47 : decode cX11_digest 47 = .ok (.invokevirtual 339, 3) := by decide +kernel
theorem dX11_digest_50 : decode cX11_digest 50 = .ok (.lstore_n 1, 1) := by decide +kernel
theorem dX11_digest_51 : decode cX11_digest 51 = .ok (.aload_n 0, 1) := by decide +kernel
theorem dX11_digest_52 : decode cX11_digest 52 = .ok (.getfield 10, 3) := by decide +kernel
theorem dX11_digest_55 : decode cX11_digest 55 = .ok (.getfield 156, 3) := by decide +kernel
theorem dX11_digest_58 : decode cX11_digest 58 = .ok (.lload_n 1, 1) := by decide +kernel
theorem dX11_digest_59 : decode cX11_digest 59 = .ok (.invokevirtual 340, 3) := by decide +kernel
theorem dX11_digest_62 : decode cX11_digest 62 = .ok (.lstore_n 1, 1) := by decide +kernel
theorem dX11_digest_63 : decode cX11_digest 63 = .ok (.lload_n 1, 1) := by decide +kernel
theorem dX11_digest_64 : decode cX11_digest 64 = .ok (.aload_n 0, 1) := by decide +kernel
theorem dX11_digest_65 : decode cX11_digest 65 = .ok (.getfield 10, 3) := by decide +kernel
theorem dX11_digest_68 : decode cX11_digest 68 = .ok (.getfield 208, 3) := by decide +kernel
theorem dX11_digest_71 : decode cX11_digest 71 = .ok (.invokestatic 331, 3) := by decide +kernel
theorem dX11_digest_74 : decode cX11_digest 74 = .ok (.lstore_n 1, 1) := by decide +kernel
theorem dX11_digest_75 : decode cX11_digest 75 = .ok (.lload_n 1, 1) := by decide +kernel
theorem dX11_digest_76 : decode cX11_digest 76 = .ok (.aload_n 0, 1) := by decide +kernel
theorem dX11_digest_77 : decode cX11_digest 77 = .ok (.getfield 10, 3) := by decide +kernel
theorem dX11_digest_80 : decode cX11_digest 80 = .ok (.getfield 156, 3) := by decide +kernel
theorem dX11_digest_83 : decode cX11_digest 83 = .ok (.getfield 225, 3) := by decide +kernel
theorem dX11_digest_86 : decode cX11_digest 86 = .ok (.invokestatic 331, 3) := by decide +kernel
theorem dX11_digest_89 : decode cX11_digest 89 = .ok (.lstore_n 1, 1) := by decide +kernel
theorem dX11_digest_90 : decode cX11_digest 90 = .ok (.iconst 0, 1) := by decide +kernel
theorem dX11_digest_91 : decode cX11_digest 91 = .ok (.istore_n 3, 1) := by decide +kernel
theorem dX11_digest_92 : decode cX11_digest 92 = .ok (.iload_n 3, 1) := by decide +kernel
theorem dX11_digest_93 : decode cX11_digest 93 = .ok (.bipush 6, 2) := by decide +kernel
theorem dX11_digest_95 : decode cX11_digest 95 = .ok (.if_icmp .ge 35, 3) := by decide +kernel
theorem dX11_digest_98 : decode cX11_digest 98 = .ok (.lload_n 1, 1) := by decide +kernel
theorem dX11_digest_99 : decode cX11_digest 99 = .ok (.aload_n 0, 1) := by decide +kernel
theorem dX11_digest_100 : decode cX11_digest 100 = .ok (.getfield 10, 3) := by decide +kernel
theorem dX11_digest_103 : decode cX11_digest 103 = .ok (.getfield 249, 3) := by decide +kernel
theorem dX11_digest_106 : decode cX11_digest 106 = .ok (.iload_n 3, 1) := by decide +kernel
theorem dX11_digest_107 : decode cX11_digest 107 = .ok (.iaload, 1) := by decide +kernel
theorem dX11_digest_108 : decode cX11_digest 108 = .ok (.invokestatic 331, 3) := by decide +kernel
theorem dX11_digest_111 : decode cX11_digest 111 = .ok (.aload_n 0, 1) := by decide +kernel
theorem dX11_digest_112 : decode cX11_digest 112 = .ok (.getfield 10, 3) := by decide +kernel
theorem dX11_digest_115 : decode cX11_digest 115 = .ok (.getfield 252, 3) := by decide +kernel
theorem dX11_digest_118 : decode cX11_digest 118 = .ok (.iload_n 3, 1) := by decide +kernel
theorem dX11_digest_119 : decode cX11_digest 119 = .ok (.iaload, 1) := by decide +kernel
theorem dX11_digest_120 : decode cX11_digest 120 = .ok (.invokestatic 331, 3) := by decide +kernel
theorem dX11_digest_123 : decode cX11_digest 123 = .ok (.lstore_n 1, 1) := by decide +kernel
theorem dX11_digest_124 : decode cX11_digest 124 = .ok (.iinc 3 1, 3) := by decide +kernel
theorem dX11_digest_127 : decode cX11_digest 127 = .ok (.goto (-35), 3) := by decide +kernel
theorem dX11_digest_130 : decode cX11_digest 130 = .ok (.aload_n 0, 1) := by decide +kernel
theorem dX11_digest_131 : decode cX11_digest 131 = .ok (.getfield 66, 3) := by decide +kernel
theorem dX11_digest_134 : decode cX11_digest 134 = .ok (.lload_n 1, 1) := by decide +kernel
theorem dX11_digest_135 : decode cX11_digest 135 = .ok (.invokevirtual 343, 3) := by decide +kernel
theorem dX11_digest_138 : decode cX11_digest 138 = .ok (.lreturn, 1) := by decide +kernel
theorem dX11_imageNumbered_0 : decode cX11_imageNumbered 0 = .ok (.iload_n 1, 1) := by decide +kernel
theorem dX11_imageNumbered_1 : decode cX11_imageNumbered 1 = .ok (.ifCond .ne 10, 3) := by decide +kernel
theorem dX11_imageNumbered_4 : decode cX11_imageNumbered 4 = .ok (.aload_n 0, 1) := by decide +kernel
theorem dX11_imageNumbered_5 : decode cX11_imageNumbered 5 = .ok (.getfield 19, 3) := by decide +kernel
theorem dX11_imageNumbered_8 : decode cX11_imageNumbered 8 = .ok (.goto 7, 3) := by decide +kernel
theorem dX11_imageNumbered_11 : decode cX11_imageNumbered 11 = .ok (.aload_n 0, 1) := by decide +kernel
theorem dX11_imageNumbered_12 : decode cX11_imageNumbered 12 = .ok (.getfield 22, 3) := by decide +kernel
theorem dX11_imageNumbered_15 : decode cX11_imageNumbered 15 = .ok (.areturn, 1) := by decide +kernel
theorem dX11_canAskNews_0 : decode cX11_canAskNews 0 = .ok (.aload_n 0, 1) := by decide +kernel
theorem dX11_canAskNews_1 : decode cX11_canAskNews 1 = .ok (.getfield 10, 3) := by decide +kernel
theorem dX11_canAskNews_4 : decode cX11_canAskNews 4 = .ok (.getfield 70, 3) := by decide +kernel
theorem dX11_canAskNews_7 : decode cX11_canAskNews 7 = .ok (.astore 5, 2) := by decide +kernel
theorem dX11_canAskNews_9 : decode cX11_canAskNews 9 = .ok (.aload 5, 2) := by decide +kernel
theorem dX11_canAskNews_11 : decode cX11_canAskNews 11 = .ok (.iload_n 1, 1) := by decide +kernel
theorem dX11_canAskNews_12 : decode cX11_canAskNews 12 = .ok (.invokevirtual 127, 3) := by decide +kernel
theorem dX11_canAskNews_15 : decode cX11_canAskNews 15 = .ok (.ifCond .eq 21, 3) := by decide +kernel
theorem dX11_canAskNews_18 : decode cX11_canAskNews 18 = .ok (.aload 5, 2) := by decide +kernel
theorem dX11_canAskNews_20 : decode cX11_canAskNews 20 = .ok (.iload_n 2, 1) := by decide +kernel
theorem dX11_canAskNews_21 : decode cX11_canAskNews 21 = .ok (.invokevirtual 127, 3) := by decide +kernel
theorem dX11_canAskNews_24 : decode cX11_canAskNews 24 = .ok (.ifCond .eq 12, 3) := by decide +kernel
theorem dX11_canAskNews_27 : decode cX11_canAskNews 27 = .ok (.iload_n 3, 1) := by decide +kernel
theorem dX11_canAskNews_28 : decode cX11_canAskNews 28 = .ok (.iconst 0, 1) := by decide +kernel
theorem dX11_canAskNews_29 : decode cX11_canAskNews 29 = .ok (.iconst 1, 1) := by decide +kernel
theorem dX11_canAskNews_30 : decode cX11_canAskNews 30 = .ok (.invokestatic 98, 3) := by decide +kernel
theorem dX11_canAskNews_33 : decode cX11_canAskNews 33 = .ok (.ifCond .ne 5, 3) := by decide +kernel
theorem dX11_canAskNews_36 : decode cX11_canAskNews 36 = .ok (.iconst 0, 1) := by decide +kernel
theorem dX11_canAskNews_37 : decode cX11_canAskNews 37 = .ok (.ireturn, 1) := by decide +kernel
theorem dX11_canAskNews_38 : decode cX11_canAskNews 38 = .ok (.iload 4, 2) := by decide +kernel
theorem dX11_canAskNews_40 : decode cX11_canAskNews 40 = .ok (.iconst (-1), 1) := by decide +kernel
theorem dX11_canAskNews_41 : decode cX11_canAskNews 41 = .ok (.if_icmp .eq 19, 3) := by decide +kernel
theorem dX11_canAskNews_44 : decode cX11_canAskNews 44 = .ok (.aload 5, 2) := by decide +kernel
theorem dX11_canAskNews_46 : decode cX11_canAskNews 46 = .ok (.iload 4, 2) := by decide +kernel
theorem dX11_canAskNews_48 : decode cX11_canAskNews 48 = .ok (.invokevirtual 127, 3) := by decide +kernel
theorem dX11_canAskNews_51 : decode cX11_canAskNews 51 = .ok (.ifCond .eq 13, 3) := by decide +kernel
theorem dX11_canAskNews_54 : decode cX11_canAskNews 54 = .ok (.iload 4, 2) := by decide +kernel
theorem dX11_canAskNews_56 : decode cX11_canAskNews 56 = .ok (.iload_n 1, 1) := by decide +kernel
theorem dX11_canAskNews_57 : decode cX11_canAskNews 57 = .ok (.if_icmp .eq 7, 3) := by decide +kernel
theorem dX11_canAskNews_60 : decode cX11_canAskNews 60 = .ok (.iconst 1, 1) := by decide +kernel
theorem dX11_canAskNews_61 : decode cX11_canAskNews 61 = .ok (.goto 4, 3) := by decide +kernel
theorem dX11_canAskNews_64 : decode cX11_canAskNews 64 = .ok (.iconst 0, 1) := by decide +kernel
theorem dX11_canAskNews_65 : decode cX11_canAskNews 65 = .ok (.ireturn, 1) := by decide +kernel
theorem dX11_firstOf_0 : decode cX11_firstOf 0 = .ok (.iload_n 0, 1) := by decide +kernel
theorem dX11_firstOf_1 : decode cX11_firstOf 1 = .ok (.iconst (-1), 1) := by decide +kernel
theorem dX11_firstOf_2 : decode cX11_firstOf 2 = .ok (.if_icmp .ne 10, 3) := by decide +kernel
theorem dX11_firstOf_5 : decode cX11_firstOf 5 = .ok (.iload_n 1, 1) := by decide +kernel
theorem dX11_firstOf_6 : decode cX11_firstOf 6 = .ok (.iconst (-1), 1) := by decide +kernel
theorem dX11_firstOf_7 : decode cX11_firstOf 7 = .ok (.if_icmp .ne 5, 3) := by decide +kernel
theorem dX11_firstOf_10 : decode cX11_firstOf 10 = .ok (.iconst (-1), 1) := by decide +kernel
theorem dX11_firstOf_11 : decode cX11_firstOf 11 = .ok (.ireturn, 1) := by decide +kernel
theorem dX11_firstOf_12 : decode cX11_firstOf 12 = .ok (.iload_n 1, 1) := by decide +kernel
theorem dX11_firstOf_13 : decode cX11_firstOf 13 = .ok (.iconst (-1), 1) := by decide +kernel
theorem dX11_firstOf_14 : decode cX11_firstOf 14 = .ok (.if_icmp .ne 5, 3) := by decide +kernel
theorem dX11_firstOf_17 : decode cX11_firstOf 17 = .ok (.iconst 0, 1) := by decide +kernel
theorem dX11_firstOf_18 : decode cX11_firstOf 18 = .ok (.ireturn, 1) := by decide +kernel
theorem dX11_firstOf_19 : decode cX11_firstOf 19 = .ok (.iload_n 0, 1) := by decide +kernel
theorem dX11_firstOf_20 : decode cX11_firstOf 20 = .ok (.iconst (-1), 1) := by decide +kernel
theorem dX11_firstOf_21 : decode cX11_firstOf 21 = .ok (.if_icmp .ne 5, 3) := by decide +kernel
theorem dX11_firstOf_24 : decode cX11_firstOf 24 = .ok (.iconst 1, 1) := by decide +kernel
theorem dX11_firstOf_25 : decode cX11_firstOf 25 = .ok (.ireturn, 1) := by decide +kernel
theorem dX11_firstOf_26 : decode cX11_firstOf 26 = .ok (.iload_n 0, 1) := by decide +kernel
theorem dX11_firstOf_27 : decode cX11_firstOf 27 = .ok (.iload_n 1, 1) := by decide +kernel
theorem dX11_firstOf_28 : decode cX11_firstOf 28 = .ok (.if_icmp .ne 5, 3) := by decide +kernel
theorem dX11_firstOf_31 : decode cX11_firstOf 31 = .ok (.iconst 2, 1) := by decide +kernel
theorem dX11_firstOf_32 : decode cX11_firstOf 32 = .ok (.ireturn, 1) := by decide +kernel
theorem dX11_firstOf_33 : decode cX11_firstOf 33 = .ok (.iload_n 0, 1) := by decide +kernel
theorem dX11_firstOf_34 : decode cX11_firstOf 34 = .ok (.iload_n 1, 1) := by decide +kernel
theorem dX11_firstOf_35 : decode cX11_firstOf 35 = .ok (.if_icmp .ge 7, 3) := by decide +kernel
theorem dX11_firstOf_38 : decode cX11_firstOf 38 = .ok (.iconst 0, 1) := by decide +kernel
theorem dX11_firstOf_39 : decode cX11_firstOf 39 = .ok (.goto 4, 3) := by decide +kernel
theorem dX11_firstOf_42 : decode cX11_firstOf 42 = .ok (.iconst 1, 1) := by decide +kernel
theorem dX11_firstOf_43 : decode cX11_firstOf 43 = .ok (.ireturn, 1) := by decide +kernel
theorem dX11_within_0 : decode cX11_within 0 = .ok (.iload_n 1, 1) := by decide +kernel
theorem dX11_within_1 : decode cX11_within 1 = .ok (.iload_n 0, 1) := by decide +kernel
theorem dX11_within_2 : decode cX11_within 2 = .ok (.if_icmp .gt 12, 3) := by decide +kernel
theorem dX11_within_5 : decode cX11_within 5 = .ok (.iload_n 0, 1) := by decide +kernel
theorem dX11_within_6 : decode cX11_within 6 = .ok (.iload_n 2, 1) := by decide +kernel
theorem dX11_within_7 : decode cX11_within 7 = .ok (.if_icmp .gt 7, 3) := by decide +kernel
theorem dX11_within_10 : decode cX11_within 10 = .ok (.iconst 1, 1) := by decide +kernel
theorem dX11_within_11 : decode cX11_within 11 = .ok (.goto 4, 3) := by decide +kernel
theorem dX11_within_14 : decode cX11_within 14 = .ok (.iconst 0, 1) := by decide +kernel
theorem dX11_within_15 : decode cX11_within 15 = .ok (.ireturn, 1) := by decide +kernel
theorem dX11_hasBit_0 : decode cX11_hasBit 0 = .ok (.iload_n 0, 1) := by decide +kernel
theorem dX11_hasBit_1 : decode cX11_hasBit 1 = .ok (.iload_n 1, 1) := by decide +kernel
theorem dX11_hasBit_2 : decode cX11_hasBit 2 = .ok (.iushr, 1) := by decide +kernel
theorem dX11_hasBit_3 : decode cX11_hasBit 3 = .ok (.iconst 1, 1) := by decide +kernel
theorem dX11_hasBit_4 : decode cX11_hasBit 4 = .ok (.iand, 1) := by decide +kernel
theorem dX11_hasBit_5 : decode cX11_hasBit 5 = .ok (.ifCond .eq 7, 3) := by decide +kernel
theorem dX11_hasBit_8 : decode cX11_hasBit 8 = .ok (.iconst 1, 1) := by decide +kernel
theorem dX11_hasBit_9 : decode cX11_hasBit 9 = .ok (.goto 4, 3) := by decide +kernel
theorem dX11_hasBit_12 : decode cX11_hasBit 12 = .ok (.iconst 0, 1) := by decide +kernel
theorem dX11_hasBit_13 : decode cX11_hasBit 13 = .ok (.ireturn, 1) := by decide +kernel
theorem dX11_oneIf_0 : decode cX11_oneIf 0 = .ok (.iload_n 0, 1) := by decide +kernel
theorem dX11_oneIf_1 : decode cX11_oneIf 1 = .ok (.ifCond .eq 7, 3) := by decide +kernel
theorem dX11_oneIf_4 : decode cX11_oneIf 4 = .ok (.iconst 1, 1) := by decide +kernel
theorem dX11_oneIf_5 : decode cX11_oneIf 5 = .ok (.goto 4, 3) := by decide +kernel
theorem dX11_oneIf_8 : decode cX11_oneIf 8 = .ok (.iconst 0, 1) := by decide +kernel
theorem dX11_oneIf_9 : decode cX11_oneIf 9 = .ok (.ireturn, 1) := by decide +kernel
theorem dX11_mixed_0 : decode cX11_mixed 0 = .ok (.ldc2_w 344, 3) := by decide +kernel
theorem dX11_mixed_3 : decode cX11_mixed 3 = .ok (.lload_n 0, 1) := by decide +kernel
theorem dX11_mixed_4 : decode cX11_mixed 4 = .ok (.lmul, 1) := by decide +kernel
theorem dX11_mixed_5 : decode cX11_mixed 5 = .ok (.iload_n 2, 1) := by decide +kernel
theorem dX11_mixed_6 : decode cX11_mixed 6 = .ok (.i2l, 1) := by decide +kernel
theorem dX11_mixed_7 : decode cX11_mixed 7 = .ok (.ladd, 1) := by decide +kernel
theorem dX11_mixed_8 : decode cX11_mixed 8 = .ok (.lreturn, 1) := by decide +kernel
theorem dX11_commonDivisor_0 : decode cX11_commonDivisor 0 = .ok (.iload_n 0, 1) := by decide +kernel
theorem dX11_commonDivisor_1 : decode cX11_commonDivisor 1 = .ok (.istore_n 2, 1) := by decide +kernel
theorem dX11_commonDivisor_2 : decode cX11_commonDivisor 2 = .ok (.iload_n 1, 1) := by decide +kernel
theorem dX11_commonDivisor_3 : decode cX11_commonDivisor 3 = .ok (.istore_n 3, 1) := by decide +kernel
theorem dX11_commonDivisor_4 : decode cX11_commonDivisor 4 = .ok (.iconst 0, 1) := by decide +kernel
theorem dX11_commonDivisor_5 : decode cX11_commonDivisor 5 = .ok (.istore 4, 2) := by decide +kernel
theorem dX11_commonDivisor_7 : decode cX11_commonDivisor 7 = .ok (.iload 4, 2) := by decide +kernel
theorem dX11_commonDivisor_9 : decode cX11_commonDivisor 9 = .ok (.bipush 100, 2) := by decide +kernel
theorem dX11_commonDivisor_11 : decode cX11_commonDivisor 11 = .ok (.if_icmp .ge 23, 3) := by decide +kernel
theorem dX11_commonDivisor_14 : decode cX11_commonDivisor 14 = .ok (.iload_n 3, 1) := by decide +kernel
theorem dX11_commonDivisor_15 : decode cX11_commonDivisor 15 = .ok (.ifCond .le 19, 3) := by decide +kernel
theorem dX11_commonDivisor_18 : decode cX11_commonDivisor 18 = .ok (.iload_n 2, 1) := by decide +kernel
theorem dX11_commonDivisor_19 : decode cX11_commonDivisor 19 = .ok (.iload_n 3, 1) := by decide +kernel
theorem dX11_commonDivisor_20 : decode cX11_commonDivisor 20 = .ok (.irem, 1) := by decide +kernel
theorem dX11_commonDivisor_21 : decode cX11_commonDivisor 21 = .ok (.istore 5, 2) := by decide +kernel
theorem dX11_commonDivisor_23 : decode cX11_commonDivisor 23 = .ok (.iload_n 3, 1) := by decide +kernel
theorem dX11_commonDivisor_24 : decode cX11_commonDivisor 24 = .ok (.istore_n 2, 1) := by decide +kernel
theorem dX11_commonDivisor_25 : decode cX11_commonDivisor 25 = .ok (.iload 5, 2) := by decide +kernel
theorem dX11_commonDivisor_27 : decode cX11_commonDivisor 27 = .ok (.istore_n 3, 1) := by decide +kernel
theorem dX11_commonDivisor_28 : decode cX11_commonDivisor 28 = .ok (.iinc 4 1, 3) := by decide +kernel
theorem dX11_commonDivisor_31 : decode cX11_commonDivisor 31 = .ok (.goto (-24), 3) := by decide +kernel
theorem dX11_commonDivisor_34 : decode cX11_commonDivisor 34 = .ok (.iload_n 2, 1) := by decide +kernel
theorem dX11_commonDivisor_35 : decode cX11_commonDivisor 35 = .ok (.ireturn, 1) := by decide +kernel
theorem dX12_in_0 : decode cX12_in 0 = .ok (.lload_n 0, 1) := by decide +kernel
theorem dX12_in_1 : decode cX12_in 1 = .ok (.lload_n 2, 1) := by decide +kernel
theorem dX12_in_2 : decode cX12_in 2 = .ok (.lcmp, 1) := by decide +kernel
theorem dX12_in_3 : decode cX12_in 3 = .ok (.ifCond .lt 14, 3) := by decide +kernel
theorem dX12_in_6 : decode cX12_in 6 = .ok (.lload_n 0, 1) := by decide +kernel
theorem dX12_in_7 : decode cX12_in 7 = .ok (.lload 4, 2) := by decide +kernel
theorem dX12_in_9 : decode cX12_in 9 = .ok (.lcmp, 1) := by decide +kernel
theorem dX12_in_10 : decode cX12_in 10 = .ok (.ifCond .gt 7, 3) := by decide +kernel
theorem dX12_in_13 : decode cX12_in 13 = .ok (.iconst 1, 1) := by decide +kernel
theorem dX12_in_14 : decode cX12_in 14 = .ok (.goto 4, 3) := by decide +kernel
theorem dX12_in_17 : decode cX12_in 17 = .ok (.iconst 0, 1) := by decide +kernel
theorem dX12_in_18 : decode cX12_in 18 = .ok (.ireturn, 1) := by decide +kernel
theorem dX12_init_0 : decode cX12_init 0 = .ok (.aload_n 0, 1) := by decide +kernel
theorem dX12_init_1 : decode cX12_init 1 = .ok (.invokespecial 1, 3) := by decide +kernel
theorem dX12_init_4 : decode cX12_init 4 = .ok (.aload_n 0, 1) := by decide +kernel
theorem dX12_init_5 : decode cX12_init 5 = .ok (.sipush 240, 3) := by decide +kernel
theorem dX12_init_8 : decode cX12_init 8 = .ok (.newarray .int, 2) := by decide +kernel
theorem dX12_init_10 : decode cX12_init 10 = .ok (.putfield 7, 3) := by decide +kernel
theorem dX12_init_13 : decode cX12_init 13 = .ok (.aload_n 0, 1) := by decide +kernel
theorem dX12_init_14 : decode cX12_init 14 = .ok (.sipush 480, 3) := by decide +kernel
theorem dX12_init_17 : decode cX12_init 17 = .ok (.newarray .int, 2) := by decide +kernel
theorem dX12_init_19 : decode cX12_init 19 = .ok (.putfield 13, 3) := by decide +kernel
theorem dX12_init_22 : decode cX12_init 22 = .ok (.aload_n 0, 1) := by decide +kernel
theorem dX12_init_23 : decode cX12_init 23 = .ok (.iconst 2, 1) := by decide +kernel
theorem dX12_init_24 : decode cX12_init 24 = .ok (.newarray .boolean, 2) := by decide +kernel
theorem dX12_init_26 : decode cX12_init 26 = .ok (.putfield 16, 3) := by decide +kernel
theorem dX12_init_29 : decode cX12_init 29 = .ok (.aload_n 0, 1) := by decide +kernel
theorem dX12_init_30 : decode cX12_init 30 = .ok (.sipush 240, 3) := by decide +kernel
theorem dX12_init_33 : decode cX12_init 33 = .ok (.newarray .int, 2) := by decide +kernel
theorem dX12_init_35 : decode cX12_init 35 = .ok (.putfield 20, 3) := by decide +kernel
theorem dX12_init_38 : decode cX12_init 38 = .ok (.aload_n 0, 1) := by decide +kernel
theorem dX12_init_39 : decode cX12_init 39 = .ok (.sipush 1680, 3) := by decide +kernel
theorem dX12_init_42 : decode cX12_init 42 = .ok (.newarray .int, 2) := by decide +kernel
theorem dX12_init_44 : decode cX12_init 44 = .ok (.putfield 23, 3) := by decide +kernel
theorem dX12_init_47 : decode cX12_init 47 = .ok (.aload_n 0, 1) := by decide +kernel
theorem dX12_init_48 : decode cX12_init 48 = .ok (.bipush 28, 2) := by decide +kernel
theorem dX12_init_50 : decode cX12_init 50 = .ok (.newarray .int, 2) := by decide +kernel
theorem dX12_init_52 : decode cX12_init 52 = .ok (.putfield 26, 3) := by decide +kernel
theorem dX12_init_55 : decode cX12_init 55 = .ok (.aload_n 0, 1) := by decide +kernel
theorem dX12_init_56 : decode cX12_init 56 = .ok (.bipush 64, 2) := by decide +kernel
theorem dX12_init_58 : decode cX12_init 58 = .ok (.newarray .boolean, 2) := by decide +kernel
theorem dX12_init_60 : decode cX12_init 60 = .ok (.putfield 29, 3) := by decide +kernel
theorem dX12_init_63 : decode cX12_init 63 = .ok (.aload_n 0, 1) := by decide +kernel
theorem dX12_init_64 : decode cX12_init 64 = .ok (.bipush 64, 2) := by decide +kernel
theorem dX12_init_66 : decode cX12_init 66 = .ok (.newarray .boolean, 2) := by decide +kernel
theorem dX12_init_68 : decode cX12_init 68 = .ok (.putfield 32, 3) := by decide +kernel
theorem dX12_init_71 : decode cX12_init 71 = .ok (.aload_n 0, 1) := by decide +kernel
theorem dX12_init_72 : decode cX12_init 72 = .ok (.bipush 8, 2) := by decide +kernel
theorem dX12_init_74 : decode cX12_init 74 = .ok (.newarray .int, 2) := by decide +kernel
theorem dX12_init_76 : decode cX12_init 76 = .ok (.putfield 35, 3) := by decide +kernel
theorem dX12_init_79 : decode cX12_init 79 = .ok (.aload_n 0, 1) := by decide +kernel
theorem dX12_init_80 : decode cX12_init 80 = .ok (.bipush 8, 2) := by decide +kernel
theorem dX12_init_82 : decode cX12_init 82 = .ok (.newarray .int, 2) := by decide +kernel
theorem dX12_init_84 : decode cX12_init 84 = .ok (.putfield 38, 3) := by decide +kernel
theorem dX12_init_87 : decode cX12_init 87 = .ok (.aload_n 0, 1) := by decide +kernel
theorem dX12_init_88 : decode cX12_init 88 = .ok (.bipush 25, 2) := by decide +kernel
theorem dX12_init_90 : decode cX12_init 90 = .ok (.newarray .int, 2) := by decide +kernel
theorem dX12_init_92 : decode cX12_init 92 = .ok (.putfield 41, 3) := by decide +kernel
theorem dX12_init_95 : decode cX12_init 95 = .ok (.aload_n 0, 1) := by decide +kernel
theorem dX12_init_96 : decode cX12_init 96 = .ok (.bipush 25, 2) := by decide +kernel
theorem dX12_init_98 : decode cX12_init 98 = .ok (.newarray .int, 2) := by decide +kernel
theorem dX12_init_100 : decode cX12_init 100 = .ok (.putfield 44, 3) := by decide +kernel
theorem dX12_init_103 : decode cX12_init 103 = .ok (.aload_n 0, 1) := by decide +kernel
theorem dX12_init_104 : decode cX12_init 104 = .ok (.bipush 25, 2) := by decide +kernel
theorem dX12_init_106 : decode cX12_init 106 = .ok (.newarray .int, 2) := by decide +kernel
theorem dX12_init_108 : decode cX12_init 108 = .ok (.putfield 47, 3) := by decide +kernel
theorem dX12_init_111 : decode cX12_init 111 = .ok (.aload_n 0, 1) := by decide +kernel
theorem dX12_init_112 : decode cX12_init 112 = .ok (.bipush 10, 2) := by decide +kernel
theorem dX12_init_114 : decode cX12_init 114 = .ok (.newarray .int, 2) := by decide +kernel
theorem dX12_init_116 : decode cX12_init 116 = .ok (.putfield 50, 3) := by decide +kernel
theorem dX12_init_119 : decode cX12_init 119 = .ok (.aload_n 0, 1) := by decide +kernel
theorem dX12_init_120 : decode cX12_init 120 = .ok (.bipush 8, 2) := by decide +kernel
theorem dX12_init_122 : decode cX12_init 122 = .ok (.newarray .int, 2) := by decide +kernel
theorem dX12_init_124 : decode cX12_init 124 = .ok (.putfield 53, 3) := by decide +kernel
theorem dX12_init_127 : decode cX12_init 127 = .ok (.aload_n 0, 1) := by decide +kernel
theorem dX12_init_128 : decode cX12_init 128 = .ok (.bipush 8, 2) := by decide +kernel
theorem dX12_init_130 : decode cX12_init 130 = .ok (.newarray .int, 2) := by decide +kernel
theorem dX12_init_132 : decode cX12_init 132 = .ok (.putfield 56, 3) := by decide +kernel
theorem dX12_init_135 : decode cX12_init 135 = .ok (.aload_n 0, 1) := by decide +kernel
theorem dX12_init_136 : decode cX12_init 136 = .ok (.sipush 240, 3) := by decide +kernel
theorem dX12_init_139 : decode cX12_init 139 = .ok (.newarray .int, 2) := by decide +kernel
theorem dX12_init_141 : decode cX12_init 141 = .ok (.putfield 59, 3) := by decide +kernel
theorem dX12_init_144 : decode cX12_init 144 = .ok (.aload_n 0, 1) := by decide +kernel
theorem dX12_init_145 : decode cX12_init 145 = .ok (.sipush 240, 3) := by decide +kernel
theorem dX12_init_148 : decode cX12_init 148 = .ok (.newarray .int, 2) := by decide +kernel
theorem dX12_init_150 : decode cX12_init 150 = .ok (.putfield 62, 3) := by decide +kernel
theorem dX12_init_153 : decode cX12_init 153 = .ok (.aload_n 0, 1) := by decide +kernel
theorem dX12_init_154 : decode cX12_init 154 = .ok (.sipush 240, 3) := by decide +kernel
theorem dX12_init_157 : decode cX12_init 157 = .ok (.newarray .int, 2) := by decide +kernel
theorem dX12_init_159 : decode cX12_init 159 = .ok (.putfield 65, 3) := by decide +kernel
theorem dX12_init_162 : decode cX12_init 162 = .ok (.aload_n 0, 1) := by decide +kernel
theorem dX12_init_163 : decode cX12_init 163 = .ok (.sipush 1680, 3) := by decide +kernel
theorem dX12_init_166 : decode cX12_init 166 = .ok (.newarray .int, 2) := by decide +kernel
theorem dX12_init_168 : decode cX12_init 168 = .ok (.putfield 68, 3) := by decide +kernel
theorem dX12_init_171 : decode cX12_init 171 = .ok (.aload_n 0, 1) := by decide +kernel
theorem dX12_init_172 : decode cX12_init 172 = .ok (.getfield 7, 3) := by decide +kernel
theorem dX12_init_175 : decode cX12_init 175 = .ok (.bipush 8, 2) := by decide +kernel
theorem dX12_init_177 : decode cX12_init 177 = .ok (.bipush 20, 2) := by decide +kernel
theorem dX12_init_179 : decode cX12_init 179 = .ok (.iastore, 1) := by decide +kernel
theorem dX12_init_180 : decode cX12_init 180 = .ok (.aload_n 0, 1) := by decide +kernel
theorem dX12_init_181 : decode cX12_init 181 = .ok (.invokevirtual 71, 3) := by decide +kernel
theorem dX12_init_184 : decode cX12_init 184 = .ok (.aload_n 0, 1) := by decide +kernel
theorem dX12_init_185 : decode cX12_init 185 = .ok (.iconst 1, 1) := by decide +kernel
theorem dX12_init_186 : decode cX12_init 186 = .ok (.lconst 1, 1) := by decide +kernel
theorem dX12_init_187 : decode cX12_init 187 = .ok (.invokevirtual 74, 3) := by decide +kernel
theorem dX12_init_190 : decode cX12_init 190 = .ok (.return_, 1) := by decide +kernel
theorem dX12_begins_0 : decode cX12_begins 0 = .ok (.iconst 0, 1) := by decide +kernel
theorem dX12_begins_1 : decode cX12_begins 1 = .ok (.istore_n 1, 1) := by decide +kernel
theorem dX12_begins_2 : decode cX12_begins 2 = .ok (.iload_n 1, 1) := by decide +kernel
theorem dX12_begins_3 : decode cX12_begins 3 = .ok (.iconst 5, 1) := by decide +kernel
theorem dX12_begins_4 : decode cX12_begins 4 = .ok (.if_icmp .ge 16, 3) := by decide +kernel
theorem dX12_begins_7 : decode cX12_begins 7 = .ok (.aload_n 0, 1) := by decide +kernel
theorem dX12_begins_8 : decode cX12_begins 8 = .ok (.getfield 7, 3) := by decide +kernel
theorem dX12_begins_11 : decode cX12_begins 11 = .ok (.iload_n 1, 1) := by decide +kernel
theorem dX12_begins_12 : decode cX12_begins 12 = .ok (.iconst 0, 1) := by decide +kernel
theorem dX12_begins_13 : decode cX12_begins 13 = .ok (.iastore, 1) := by decide +kernel
theorem dX12_begins_14 : decode cX12_begins 14 = .ok (.iinc 1 1, 3) := by decide +kernel
theorem dX12_begins_17 : decode cX12_begins 17 = .ok (.goto (-15), 3) := by decide +kernel
theorem dX12_begins_20 : decode cX12_begins 20 = .ok (.aload_n 0, 1) := by decide +kernel
theorem dX12_begins_21 : decode cX12_begins 21 = .ok (.getfield 7, 3) := by decide +kernel
theorem dX12_begins_24 : decode cX12_begins 24 = .ok (.bipush 6, 2) := by decide +kernel
theorem dX12_begins_26 : decode cX12_begins 26 = .ok (.bipush 18, 2) := by decide +kernel
theorem dX12_begins_28 : decode cX12_begins 28 = .ok (.iastore, 1) := by decide +kernel
theorem dX12_begins_29 : decode cX12_begins 29 = .ok (.aload_n 0, 1) := by decide +kernel
theorem dX12_begins_30 : decode cX12_begins 30 = .ok (.getfield 7, 3) := by decide +kernel
theorem dX12_begins_33 : decode cX12_begins 33 = .ok (.bipush 7, 2) := by decide +kernel
theorem dX12_begins_35 : decode cX12_begins 35 = .ok (.bipush 50, 2) := by decide +kernel
theorem dX12_begins_37 : decode cX12_begins 37 = .ok (.iastore, 1) := by decide +kernel
theorem dX12_begins_38 : decode cX12_begins 38 = .ok (.aload_n 0, 1) := by decide +kernel
theorem dX12_begins_39 : decode cX12_begins 39 = .ok (.getfield 7, 3) := by decide +kernel
theorem dX12_begins_42 : decode cX12_begins 42 = .ok (.bipush 9, 2) := by decide +kernel
theorem dX12_begins_44 : decode cX12_begins 44 = .ok (.iconst 0, 1) := by decide +kernel
theorem dX12_begins_45 : decode cX12_begins 45 = .ok (.iastore, 1) := by decide +kernel
theorem dX12_begins_46 : decode cX12_begins 46 = .ok (.iconst 0, 1) := by decide +kernel
theorem dX12_begins_47 : decode cX12_begins 47 = .ok (.istore_n 1, 1) := by decide +kernel
theorem dX12_begins_48 : decode cX12_begins 48 = .ok (.iload_n 1, 1) := by decide +kernel
theorem dX12_begins_49 : decode cX12_begins 49 = .ok (.bipush 64, 2) := by decide +kernel
theorem dX12_begins_51 : decode cX12_begins 51 = .ok (.if_icmp .ge 19, 3) := by decide +kernel
theorem dX12_begins_54 : decode cX12_begins 54 = .ok (.aload_n 0, 1) := by decide +kernel
theorem dX12_begins_55 : decode cX12_begins 55 = .ok (.getfield 7, 3) := by decide +kernel
theorem dX12_begins_58 : decode cX12_begins 58 = .ok (.bipush 10, 2) := by decide +kernel
theorem dX12_begins_60 : decode cX12_begins 60 = .ok (.iload_n 1, 1) := by decide +kernel
theorem dX12_begins_61 : decode cX12_begins 61 = .ok (.iadd, 1) := by decide +kernel
theorem dX12_begins_62 : decode cX12_begins 62 = .ok (.iconst 0, 1) := by decide +kernel
theorem dX12_begins_63 : decode cX12_begins 63 = .ok (.iastore, 1) := by decide +kernel
theorem dX12_begins_64 : decode cX12_begins 64 = .ok (.iinc 1 1, 3) := by decide +kernel
theorem dX12_begins_67 : decode cX12_begins 67 = .ok (.goto (-19), 3) := by decide +kernel
theorem dX12_begins_70 : decode cX12_begins 70 = .ok (.iconst 0, 1) := by decide +kernel
theorem dX12_begins_71 : decode cX12_begins 71 = .ok (.istore_n 1, 1) := by decide +kernel
theorem dX12_begins_72 : decode cX12_begins 72 = .ok (.iload_n 1, 1) := by decide +kernel
theorem dX12_begins_73 : decode cX12_begins 73 = .ok (.bipush 6, 2) := by decide +kernel
theorem dX12_begins_75 : decode cX12_begins 75 = .ok (.if_icmp .ge 20, 3) := by decide +kernel
theorem dX12_begins_78 : decode cX12_begins 78 = .ok (.aload_n 0, 1) := by decide +kernel
theorem dX12_begins_79 : decode cX12_begins 79 = .ok (.getfield 7, 3) := by decide +kernel
theorem dX12_begins_82 : decode cX12_begins 82 = .ok (.sipush 150, 3) := by decide +kernel
theorem dX12_begins_85 : decode cX12_begins 85 = .ok (.iload_n 1, 1) := by decide +kernel
theorem dX12_begins_86 : decode cX12_begins 86 = .ok (.iadd, 1) := by decide +kernel
theorem dX12_begins_87 : decode cX12_begins 87 = .ok (.iload_n 1, 1) := by decide +kernel
theorem dX12_begins_88 : decode cX12_begins 88 = .ok (.iastore, 1) := by decide +kernel
theorem dX12_begins_89 : decode cX12_begins 89 = .ok (.iinc 1 1, 3) := by decide +kernel
theorem dX12_begins_92 : decode cX12_begins 92 = .ok (.goto (-20), 3) := by decide +kernel
theorem dX12_begins_95 : decode cX12_begins 95 = .ok (.return_, 1) := by decide +kernel
theorem dX12_trims_0 : decode cX12_trims 0 = .ok (.aload_n 0, 1) := by decide +kernel
theorem dX12_trims_1 : decode cX12_trims 1 = .ok (.getfield 26, 3) := by decide +kernel
theorem dX12_trims_4 : decode cX12_trims 4 = .ok (.iload_n 1, 1) := by decide +kernel
theorem dX12_trims_5 : decode cX12_trims 5 = .ok (.iaload, 1) := by decide +kernel
theorem dX12_trims_6 : decode cX12_trims 6 = .ok (.ifCond .le 37, 3) := by decide +kernel
theorem dX12_trims_9 : decode cX12_trims 9 = .ok (.aload_n 0, 1) := by decide +kernel
theorem dX12_trims_10 : decode cX12_trims 10 = .ok (.getfield 23, 3) := by decide +kernel
theorem dX12_trims_13 : decode cX12_trims 13 = .ok (.bipush 60, 2) := by decide +kernel
theorem dX12_trims_15 : decode cX12_trims 15 = .ok (.iload_n 1, 1) := by decide +kernel
theorem dX12_trims_16 : decode cX12_trims 16 = .ok (.imul, 1) := by decide +kernel
theorem dX12_trims_17 : decode cX12_trims 17 = .ok (.aload_n 0, 1) := by decide +kernel
theorem dX12_trims_18 : decode cX12_trims 18 = .ok (.getfield 26, 3) := by decide +kernel
theorem dX12_trims_21 : decode cX12_trims 21 = .ok (.iload_n 1, 1) := by decide +kernel
theorem dX12_trims_22 : decode cX12_trims 22 = .ok (.iaload, 1) := by decide +kernel
theorem dX12_trims_23 : decode cX12_trims 23 = .ok (.iadd, 1) := by decide +kernel
theorem dX12_trims_24 : decode cX12_trims 24 = .ok (.iconst 1, 1) := by decide +kernel
theorem dX12_trims_25 : decode cX12_trims 25 = .ok (.isub, 1) := by decide +kernel
theorem dX12_trims_26 : decode cX12_trims 26 = .ok (.iaload, 1) := by decide +kernel
theorem dX12_trims_27 : decode cX12_trims 27 = .ok (.ifCond .ne 16, 3) := by decide +kernel
theorem dX12_trims_30 : decode cX12_trims 30 = .ok (.aload_n 0, 1) := by decide +kernel
theorem dX12_trims_31 : decode cX12_trims 31 = .ok (.getfield 26, 3) := by decide +kernel
theorem dX12_trims_34 : decode cX12_trims 34 = .ok (.iload_n 1, 1) := by decide +kernel
theorem dX12_trims_35 : decode cX12_trims 35 = .ok (.dup2, 1) := by decide +kernel
theorem dX12_trims_36 : decode cX12_trims 36 = .ok (.iaload, 1) := by decide +kernel
theorem dX12_trims_37 : decode cX12_trims 37 = .ok (.iconst 1, 1) := by decide +kernel
theorem dX12_trims_38 : decode cX12_trims 38 = .ok (.isub, 1) := by decide +kernel
theorem dX12_trims_39 : decode cX12_trims 39 = .ok (.iastore, 1) := by decide +kernel
theorem dX12_trims_40 : decode cX12_trims 40 = .ok (.goto (-40), 3) := by decide +kernel
theorem dX12_trims_43 : decode cX12_trims 43 = .ok (.return_, 1) := by decide +kernel
theorem dX12_sets_0 : decode cX12_sets 0 = .ok (.iconst 0, 1) := by decide +kernel
theorem dX12_sets_1 : decode cX12_sets 1 = .ok (.istore 4, 2) := by decide +kernel
theorem dX12_sets_3 : decode cX12_sets 3 = .ok (.iload 4, 2) := by decide +kernel
theorem dX12_sets_5 : decode cX12_sets 5 = .ok (.bipush 60, 2) := by decide +kernel
theorem dX12_sets_7 : decode cX12_sets 7 = .ok (.if_icmp .ge 43, 3) := by decide +kernel
theorem dX12_sets_10 : decode cX12_sets 10 = .ok (.aload_n 0, 1) := by decide +kernel
theorem dX12_sets_11 : decode cX12_sets 11 = .ok (.getfield 23, 3) := by decide +kernel
theorem dX12_sets_14 : decode cX12_sets 14 = .ok (.bipush 60, 2) := by decide +kernel
theorem dX12_sets_16 : decode cX12_sets 16 = .ok (.iload_n 1, 1) := by decide +kernel
theorem dX12_sets_17 : decode cX12_sets 17 = .ok (.imul, 1) := by decide +kernel
theorem dX12_sets_18 : decode cX12_sets 18 = .ok (.iload 4, 2) := by decide +kernel
theorem dX12_sets_20 : decode cX12_sets 20 = .ok (.iadd, 1) := by decide +kernel
theorem dX12_sets_21 : decode cX12_sets 21 = .ok (.iload 4, 2) := by decide +kernel
theorem dX12_sets_23 : decode cX12_sets 23 = .ok (.iconst 3, 1) := by decide +kernel
theorem dX12_sets_24 : decode cX12_sets 24 = .ok (.if_icmp .ge 18, 3) := by decide +kernel
theorem dX12_sets_27 : decode cX12_sets 27 = .ok (.lload_n 2, 1) := by decide +kernel
theorem dX12_sets_28 : decode cX12_sets 28 = .ok (.bipush 30, 2) := by decide +kernel
theorem dX12_sets_30 : decode cX12_sets 30 = .ok (.iload 4, 2) := by decide +kernel
theorem dX12_sets_32 : decode cX12_sets 32 = .ok (.imul, 1) := by decide +kernel
theorem dX12_sets_33 : decode cX12_sets 33 = .ok (.lshr, 1) := by decide +kernel
theorem dX12_sets_34 : decode cX12_sets 34 = .ok (.ldc2_w 78, 3) := by decide +kernel
theorem dX12_sets_37 : decode cX12_sets 37 = .ok (.land, 1) := by decide +kernel
theorem dX12_sets_38 : decode cX12_sets 38 = .ok (.l2i, 1) := by decide +kernel
theorem dX12_sets_39 : decode cX12_sets 39 = .ok (.goto 4, 3) := by decide +kernel
theorem dX12_sets_42 : decode cX12_sets 42 = .ok (.iconst 0, 1) := by decide +kernel
theorem dX12_sets_43 : decode cX12_sets 43 = .ok (.iastore, 1) := by decide +kernel
theorem dX12_sets_44 : decode cX12_sets 44 = .ok (.iinc 4 1, 3) := by decide +kernel
theorem dX12_sets_47 : decode cX12_sets 47 = .ok (.goto (-44), 3) := by decide +kernel
theorem dX12_sets_50 : decode cX12_sets 50 = .ok (.aload_n 0, 1) := by decide +kernel
theorem dX12_sets_51 : decode cX12_sets 51 = .ok (.getfield 26, 3) := by decide +kernel
theorem dX12_sets_54 : decode cX12_sets 54 = .ok (.iload_n 1, 1) := by decide +kernel
theorem dX12_sets_55 : decode cX12_sets 55 = .ok (.iconst 3, 1) := by decide +kernel
theorem dX12_sets_56 : decode cX12_sets 56 = .ok (.iastore, 1) := by decide +kernel
theorem dX12_sets_57 : decode cX12_sets 57 = .ok (.aload_n 0, 1) := by decide +kernel
theorem dX12_sets_58 : decode cX12_sets 58 = .ok (.iload_n 1, 1) := by decide +kernel
theorem dX12_sets_59 : decode cX12_sets 59 = .ok (.invokevirtual 80, 3) := by decide +kernel
theorem dX12_sets_62 : decode cX12_sets 62 = .ok (.return_, 1) := by decide +kernel
theorem dX12_takes_0 : decode cX12_takes 0 = .ok (.iconst 0, 1) := by decide +kernel
theorem dX12_takes_1 : decode cX12_takes 1 = .ok (.istore_n 3, 1) := by decide +kernel
theorem dX12_takes_2 : decode cX12_takes 2 = .ok (.iload_n 3, 1) := by decide +kernel
theorem dX12_takes_3 : decode cX12_takes 3 = .ok (.bipush 60, 2) := by decide +kernel
theorem dX12_takes_5 : decode cX12_takes 5 = .ok (.if_icmp .ge 31, 3) := by decide +kernel
theorem dX12_takes_8 : decode cX12_takes 8 = .ok (.aload_n 0, 1) := by decide +kernel
theorem dX12_takes_9 : decode cX12_takes 9 = .ok (.getfield 23, 3) := by decide +kernel
theorem dX12_takes_12 : decode cX12_takes 12 = .ok (.bipush 60, 2) := by decide +kernel
theorem dX12_takes_14 : decode cX12_takes 14 = .ok (.iload_n 1, 1) := by decide +kernel
theorem dX12_takes_15 : decode cX12_takes 15 = .ok (.imul, 1) := by decide +kernel
theorem dX12_takes_16 : decode cX12_takes 16 = .ok (.iload_n 3, 1) := by decide +kernel
theorem dX12_takes_17 : decode cX12_takes 17 = .ok (.iadd, 1) := by decide +kernel
theorem dX12_takes_18 : decode cX12_takes 18 = .ok (.aload_n 0, 1) := by decide +kernel
theorem dX12_takes_19 : decode cX12_takes 19 = .ok (.getfield 23, 3) := by decide +kernel
theorem dX12_takes_22 : decode cX12_takes 22 = .ok (.bipush 60, 2) := by decide +kernel
theorem dX12_takes_24 : decode cX12_takes 24 = .ok (.iload_n 2, 1) := by decide +kernel
theorem dX12_takes_25 : decode cX12_takes 25 = .ok (.imul, 1) := by decide +kernel
theorem dX12_takes_26 : decode cX12_takes 26 = .ok (.iload_n 3, 1) := by decide +kernel
theorem dX12_takes_27 : decode cX12_takes 27 = .ok (.iadd, 1) := by decide +kernel
theorem dX12_takes_28 : decode cX12_takes 28 = .ok (.iaload, 1) := by decide +kernel
theorem dX12_takes_29 : decode cX12_takes 29 = .ok (.iastore, 1) := by decide +kernel
theorem dX12_takes_30 : decode cX12_takes 30 = .ok (.iinc 3 1, 3) := by decide +kernel
theorem dX12_takes_33 : decode cX12_takes 33 = .ok (.goto (-31), 3) := by decide +kernel
theorem dX12_takes_36 : decode cX12_takes 36 = .ok (.aload_n 0, 1) := by decide +kernel
theorem dX12_takes_37 : decode cX12_takes 37 = .ok (.getfield 26, 3) := by decide +kernel
theorem dX12_takes_40 : decode cX12_takes 40 = .ok (.iload_n 1, 1) := by decide +kernel
theorem dX12_takes_41 : decode cX12_takes 41 = .ok (.aload_n 0, 1) := by decide +kernel
theorem dX12_takes_42 : decode cX12_takes 42 = .ok (.getfield 26, 3) := by decide +kernel
theorem dX12_takes_45 : decode cX12_takes 45 = .ok (.iload_n 2, 1) := by decide +kernel
theorem dX12_takes_46 : decode cX12_takes 46 = .ok (.iaload, 1) := by decide +kernel
theorem dX12_takes_47 : decode cX12_takes 47 = .ok (.iastore, 1) := by decide +kernel
theorem dX12_takes_48 : decode cX12_takes 48 = .ok (.return_, 1) := by decide +kernel
theorem dX12_times_0 : decode cX12_times 0 = .ok (.lconst 0, 1) := by decide +kernel
theorem dX12_times_1 : decode cX12_times 1 = .ok (.lstore_n 3, 1) := by decide +kernel
theorem dX12_times_2 : decode cX12_times 2 = .ok (.iconst 0, 1) := by decide +kernel
theorem dX12_times_3 : decode cX12_times 3 = .ok (.istore 5, 2) := by decide +kernel
theorem dX12_times_5 : decode cX12_times 5 = .ok (.iload 5, 2) := by decide +kernel
theorem dX12_times_7 : decode cX12_times 7 = .ok (.aload_n 0, 1) := by decide +kernel
theorem dX12_times_8 : decode cX12_times 8 = .ok (.getfield 26, 3) := by decide +kernel
theorem dX12_times_11 : decode cX12_times 11 = .ok (.iload_n 1, 1) := by decide +kernel
theorem dX12_times_12 : decode cX12_times 12 = .ok (.iaload, 1) := by decide +kernel
theorem dX12_times_13 : decode cX12_times 13 = .ok (.if_icmp .ge 54, 3) := by decide +kernel
theorem dX12_times_16 : decode cX12_times 16 = .ok (.aload_n 0, 1) := by decide +kernel
theorem dX12_times_17 : decode cX12_times 17 = .ok (.getfield 23, 3) := by decide +kernel
theorem dX12_times_20 : decode cX12_times 20 = .ok (.bipush 60, 2) := by decide +kernel
theorem dX12_times_22 : decode cX12_times 22 = .ok (.iload_n 1, 1) := by decide +kernel
theorem dX12_times_23 : decode cX12_times 23 = .ok (.imul, 1) := by decide +kernel
theorem dX12_times_24 : decode cX12_times 24 = .ok (.iload 5, 2) := by decide +kernel
theorem dX12_times_26 : decode cX12_times 26 = .ok (.iadd, 1) := by decide +kernel
theorem dX12_times_27 : decode cX12_times 27 = .ok (.iaload, 1) := by decide +kernel
theorem dX12_times_28 : decode cX12_times 28 = .ok (.i2l, 1) := by decide +kernel
theorem dX12_times_29 : decode cX12_times 29 = .ok (.iload_n 2, 1) := by decide +kernel
theorem dX12_times_30 : decode cX12_times 30 = .ok (.i2l, 1) := by decide +kernel
theorem dX12_times_31 : decode cX12_times 31 = .ok (.lmul, 1) := by decide +kernel
theorem dX12_times_32 : decode cX12_times 32 = .ok (.lload_n 3, 1) := by decide +kernel
theorem dX12_times_33 : decode cX12_times 33 = .ok (.ladd, 1) := by decide +kernel
theorem dX12_times_34 : decode cX12_times 34 = .ok (.lstore 6, 2) := by decide +kernel
theorem dX12_times_36 : decode cX12_times 36 = .ok (.aload_n 0, 1) := by decide +kernel
theorem dX12_times_37 : decode cX12_times 37 = .ok (.getfield 23, 3) := by decide +kernel
theorem dX12_times_40 : decode cX12_times 40 = .ok (.bipush 60, 2) := by decide +kernel
theorem dX12_times_42 : decode cX12_times 42 = .ok (.iload_n 1, 1) := by decide +kernel
theorem dX12_times_43 : decode cX12_times 43 = .ok (.imul, 1) := by decide +kernel
theorem dX12_times_44 : decode cX12_times 44 = .ok (.iload 5, 2) := by decide +kernel
theorem dX12_times_46 : decode cX12_times 46 = .ok (.iadd, 1) := by decide +kernel
theorem dX12_times_47 : decode cX12_times 47 = .ok (.lload 6, 2) := by decide +kernel
theorem dX12_times_49 : decode cX12_times 49 = .ok (.ldc2_w 78, 3) := by decide +kernel
theorem dX12_times_52 : decode cX12_times 52 = .ok (.land, 1) := by decide +kernel
theorem dX12_times_53 : decode cX12_times 53 = .ok (.l2i, 1) := by decide +kernel
theorem dX12_times_54 : decode cX12_times 54 = .ok (.iastore, 1) := by decide +kernel
theorem dX12_times_55 : decode cX12_times 55 = .ok (.lload 6, 2) := by decide +kernel
theorem dX12_times_57 : decode cX12_times 57 = .ok (.bipush 30, 2) := by decide +kernel
theorem dX12_times_59 : decode cX12_times 59 = .ok (.lshr, 1) := by decide +kernel
theorem dX12_times_60 : decode cX12_times 60 = .ok (.lstore_n 3, 1) := by decide +kernel
theorem dX12_times_61 : decode cX12_times 61 = .ok (.iinc 5 1, 3) := by decide +kernel
theorem dX12_times_64 : decode cX12_times 64 = .ok (.goto (-59), 3) := by decide +kernel
theorem dX12_times_67 : decode cX12_times 67 = .ok (.lload_n 3, 1) := by decide +kernel
theorem dX12_times_68 : decode cX12_times 68 = .ok (.lconst 0, 1) := by decide +kernel
theorem dX12_times_69 : decode cX12_times 69 = .ok (.lcmp, 1) := by decide +kernel
theorem dX12_times_70 : decode cX12_times 70 = .ok (.ifCond .le 31, 3) := by decide +kernel
theorem dX12_times_73 : decode cX12_times 73 = .ok (.aload_n 0, 1) := by decide +kernel
theorem dX12_times_74 : decode cX12_times 74 = .ok (.getfield 23, 3) := by decide +kernel
theorem dX12_times_77 : decode cX12_times 77 = .ok (.bipush 60, 2) := by decide +kernel
theorem dX12_times_79 : decode cX12_times 79 = .ok (.iload_n 1, 1) := by decide +kernel
theorem dX12_times_80 : decode cX12_times 80 = .ok (.imul, 1) := by decide +kernel
theorem dX12_times_81 : decode cX12_times 81 = .ok (.aload_n 0, 1) := by decide +kernel
theorem dX12_times_82 : decode cX12_times 82 = .ok (.getfield 26, 3) := by decide +kernel
theorem dX12_times_85 : decode cX12_times 85 = .ok (.iload_n 1, 1) := by decide +kernel
theorem dX12_times_86 : decode cX12_times 86 = .ok (.iaload, 1) := by decide +kernel
theorem dX12_times_87 : decode cX12_times 87 = .ok (.iadd, 1) := by decide +kernel
theorem dX12_times_88 : decode cX12_times 88 = .ok (.lload_n 3, 1) := by decide +kernel
theorem dX12_times_89 : decode cX12_times 89 = .ok (.l2i, 1) := by decide +kernel
theorem dX12_times_90 : decode cX12_times 90 = .ok (.iastore, 1) := by decide +kernel
theorem dX12_times_91 : decode cX12_times 91 = .ok (.aload_n 0, 1) := by decide +kernel
theorem dX12_times_92 : decode cX12_times 92 = .ok (.getfield 26, 3) := by decide +kernel
theorem dX12_times_95 : decode cX12_times 95 = .ok (.iload_n 1, 1) := by decide +kernel
theorem dX12_times_96 : decode cX12_times 96 = .ok (.dup2, 1) := by decide +kernel
theorem dX12_times_97 : decode cX12_times 97 = .ok (.iaload, 1) := by decide +kernel
theorem dX12_times_98 : decode cX12_times 98 = .ok (.iconst 1, 1) := by decide +kernel
theorem dX12_times_99 : decode cX12_times 99 = .ok (.iadd, 1) := by decide +kernel
theorem dX12_times_100 : decode cX12_times 100 = .ok (.iastore, 1) := by decide +kernel
theorem dX12_times_101 : decode cX12_times 101 = .ok (.aload_n 0, 1) := by decide +kernel
theorem dX12_times_102 : decode cX12_times 102 = .ok (.iload_n 1, 1) := by decide +kernel
theorem dX12_times_103 : decode cX12_times 103 = .ok (.invokevirtual 80, 3) := by decide +kernel
theorem dX12_times_106 : decode cX12_times 106 = .ok (.return_, 1) := by decide +kernel
theorem dX12_adds_0 : decode cX12_adds 0 = .ok (.iconst 0, 1) := by decide +kernel
theorem dX12_adds_1 : decode cX12_adds 1 = .ok (.istore_n 3, 1) := by decide +kernel
theorem dX12_adds_2 : decode cX12_adds 2 = .ok (.aload_n 0, 1) := by decide +kernel
theorem dX12_adds_3 : decode cX12_adds 3 = .ok (.getfield 26, 3) := by decide +kernel
theorem dX12_adds_6 : decode cX12_adds 6 = .ok (.iload_n 1, 1) := by decide +kernel
theorem dX12_adds_7 : decode cX12_adds 7 = .ok (.iaload, 1) := by decide +kernel
theorem dX12_adds_8 : decode cX12_adds 8 = .ok (.aload_n 0, 1) := by decide +kernel
theorem dX12_adds_9 : decode cX12_adds 9 = .ok (.getfield 26, 3) := by decide +kernel
theorem dX12_adds_12 : decode cX12_adds 12 = .ok (.iload_n 2, 1) := by decide +kernel
theorem dX12_adds_13 : decode cX12_adds 13 = .ok (.iaload, 1) := by decide +kernel
theorem dX12_adds_14 : decode cX12_adds 14 = .ok (.if_icmp .le 12, 3) := by decide +kernel
theorem dX12_adds_17 : decode cX12_adds 17 = .ok (.aload_n 0, 1) := by decide +kernel
theorem dX12_adds_18 : decode cX12_adds 18 = .ok (.getfield 26, 3) := by decide +kernel
theorem dX12_adds_21 : decode cX12_adds 21 = .ok (.iload_n 1, 1) := by decide +kernel
theorem dX12_adds_22 : decode cX12_adds 22 = .ok (.iaload, 1) := by decide +kernel
theorem dX12_adds_23 : decode cX12_adds 23 = .ok (.goto 9, 3) := by decide +kernel
theorem dX12_adds_26 : decode cX12_adds 26 = .ok (.aload_n 0, 1) := by decide +kernel
theorem dX12_adds_27 : decode cX12_adds 27 = .ok (.getfield 26, 3) := by decide +kernel
theorem dX12_adds_30 : decode cX12_adds 30 = .ok (.iload_n 2, 1) := by decide +kernel
theorem dX12_adds_31 : decode cX12_adds 31 = .ok (.iaload, 1) := by decide +kernel
theorem dX12_adds_32 : decode cX12_adds 32 = .ok (.istore 4, 2) := by decide +kernel
theorem dX12_adds_34 : decode cX12_adds 34 = .ok (.iconst 0, 1) := by decide +kernel
theorem dX12_adds_35 : decode cX12_adds 35 = .ok (.istore 5, 2) := by decide +kernel
theorem dX12_adds_37 : decode cX12_adds 37 = .ok (.iload 5, 2) := by decide +kernel
theorem dX12_adds_39 : decode cX12_adds 39 = .ok (.iload 4, 2) := by decide +kernel
theorem dX12_adds_41 : decode cX12_adds 41 = .ok (.if_icmp .ge 61, 3) := by decide +kernel
theorem dX12_adds_44 : decode cX12_adds 44 = .ok (.aload_n 0, 1) := by decide +kernel
theorem dX12_adds_45 : decode cX12_adds 45 = .ok (.getfield 23, 3) := by decide +kernel
theorem dX12_adds_48 : decode cX12_adds 48 = .ok (.bipush 60, 2) := by decide +kernel
theorem dX12_adds_50 : decode cX12_adds 50 = .ok (.iload_n 1, 1) := by decide +kernel
theorem dX12_adds_51 : decode cX12_adds 51 = .ok (.imul, 1) := by decide +kernel
theorem dX12_adds_52 : decode cX12_adds 52 = .ok (.iload 5, 2) := by decide +kernel
theorem dX12_adds_54 : decode cX12_adds 54 = .ok (.iadd, 1) := by decide +kernel
theorem dX12_adds_55 : decode cX12_adds 55 = .ok (.iaload, 1) := by decide +kernel
theorem dX12_adds_56 : decode cX12_adds 56 = .ok (.aload_n 0, 1) := by decide +kernel
theorem dX12_adds_57 : decode cX12_adds 57 = .ok (.getfield 23, 3) := by decide +kernel
theorem dX12_adds_60 : decode cX12_adds 60 = .ok (.bipush 60, 2) := by decide +kernel
theorem dX12_adds_62 : decode cX12_adds 62 = .ok (.iload_n 2, 1) := by decide +kernel
theorem dX12_adds_63 : decode cX12_adds 63 = .ok (.imul, 1) := by decide +kernel
theorem dX12_adds_64 : decode cX12_adds 64 = .ok (.iload 5, 2) := by decide +kernel
theorem dX12_adds_66 : decode cX12_adds 66 = .ok (.iadd, 1) := by decide +kernel
theorem dX12_adds_67 : decode cX12_adds 67 = .ok (.iaload, 1) := by decide +kernel
theorem dX12_adds_68 : decode cX12_adds 68 = .ok (.iadd, 1) := by decide +kernel
theorem dX12_adds_69 : decode cX12_adds 69 = .ok (.iload_n 3, 1) := by decide +kernel
theorem dX12_adds_70 : decode cX12_adds 70 = .ok (.iadd, 1) := by decide +kernel
theorem dX12_adds_71 : decode cX12_adds 71 = .ok (.istore 6, 2) := by decide +kernel
theorem dX12_adds_73 : decode cX12_adds 73 = .ok (.aload_n 0, 1) := by decide +kernel
theorem dX12_adds_74 : decode cX12_adds 74 = .ok (.getfield 23, 3) := by decide +kernel
theorem dX12_adds_77 : decode cX12_adds 77 = .ok (.bipush 60, 2) := by decide +kernel
theorem dX12_adds_79 : decode cX12_adds 79 = .ok (.iload_n 1, 1) := by decide +kernel
theorem dX12_adds_80 : decode cX12_adds 80 = .ok (.imul, 1) := by decide +kernel
theorem dX12_adds_81 : decode cX12_adds 81 = .ok (.iload 5, 2) := by decide +kernel
theorem dX12_adds_83 : decode cX12_adds 83 = .ok (.iadd, 1) := by decide +kernel
theorem dX12_adds_84 : decode cX12_adds 84 = .ok (.iload 6, 2) := by decide +kernel
theorem dX12_adds_86 : decode cX12_adds 86 = .ok (.ldc 88, 2) := by decide +kernel
theorem dX12_adds_88 : decode cX12_adds 88 = .ok (.iand, 1) := by decide +kernel
theorem dX12_adds_89 : decode cX12_adds 89 = .ok (.iastore, 1) := by decide +kernel
theorem dX12_adds_90 : decode cX12_adds 90 = .ok (.iload 6, 2) := by decide +kernel
theorem dX12_adds_92 : decode cX12_adds 92 = .ok (.bipush 30, 2) := by decide +kernel
theorem dX12_adds_94 : decode cX12_adds 94 = .ok (.iushr, 1) := by decide +kernel
theorem dX12_adds_95 : decode cX12_adds 95 = .ok (.istore_n 3, 1) := by decide +kernel
theorem dX12_adds_96 : decode cX12_adds 96 = .ok (.iinc 5 1, 3) := by decide +kernel
theorem dX12_adds_99 : decode cX12_adds 99 = .ok (.goto (-62), 3) := by decide +kernel
theorem dX12_adds_102 : decode cX12_adds 102 = .ok (.aload_n 0, 1) := by decide +kernel
theorem dX12_adds_103 : decode cX12_adds 103 = .ok (.getfield 23, 3) := by decide +kernel
theorem dX12_adds_106 : decode cX12_adds 106 = .ok (.bipush 60, 2) := by decide +kernel
theorem dX12_adds_108 : decode cX12_adds 108 = .ok (.iload_n 1, 1) := by decide +kernel
theorem dX12_adds_109 : decode cX12_adds 109 = .ok (.imul, 1) := by decide +kernel
theorem dX12_adds_110 : decode cX12_adds 110 = .ok (.iload 4, 2) := by decide +kernel
theorem dX12_adds_112 : decode cX12_adds 112 = .ok (.iadd, 1) := by decide +kernel
theorem dX12_adds_113 : decode cX12_adds 113 = .ok (.iload_n 3, 1) := by decide +kernel
theorem dX12_adds_114 : decode cX12_adds 114 = .ok (.iastore, 1) := by decide +kernel
theorem dX12_adds_115 : decode cX12_adds 115 = .ok (.aload_n 0, 1) := by decide +kernel
theorem dX12_adds_116 : decode cX12_adds 116 = .ok (.getfield 26, 3) := by decide +kernel
theorem dX12_adds_119 : decode cX12_adds 119 = .ok (.iload_n 1, 1) := by decide +kernel
theorem dX12_adds_120 : decode cX12_adds 120 = .ok (.iload 4, 2) := by decide +kernel
theorem dX12_adds_122 : decode cX12_adds 122 = .ok (.iload_n 3, 1) := by decide +kernel
theorem dX12_adds_123 : decode cX12_adds 123 = .ok (.iadd, 1) := by decide +kernel
theorem dX12_adds_124 : decode cX12_adds 124 = .ok (.iastore, 1) := by decide +kernel
theorem dX12_adds_125 : decode cX12_adds 125 = .ok (.aload_n 0, 1) := by decide +kernel
theorem dX12_adds_126 : decode cX12_adds 126 = .ok (.iload_n 1, 1) := by decide +kernel
theorem dX12_adds_127 : decode cX12_adds 127 = .ok (.invokevirtual 80, 3) := by decide +kernel
theorem dX12_adds_130 : decode cX12_adds 130 = .ok (.return_, 1) := by decide +kernel
theorem dX12_lessens_0 : decode cX12_lessens 0 = .ok (.iconst 0, 1) := by decide +kernel
theorem dX12_lessens_1 : decode cX12_lessens 1 = .ok (.istore_n 3, 1) := by decide +kernel
theorem dX12_lessens_2 : decode cX12_lessens 2 = .ok (.iconst 0, 1) := by decide +kernel
theorem dX12_lessens_3 : decode cX12_lessens 3 = .ok (.istore 4, 2) := by decide +kernel
theorem dX12_lessens_5 : decode cX12_lessens 5 = .ok (.iload 4, 2) := by decide +kernel
theorem dX12_lessens_7 : decode cX12_lessens 7 = .ok (.aload_n 0, 1) := by decide +kernel
theorem dX12_lessens_8 : decode cX12_lessens 8 = .ok (.getfield 26, 3) := by decide +kernel
theorem dX12_lessens_11 : decode cX12_lessens 11 = .ok (.iload_n 1, 1) := by decide +kernel
theorem dX12_lessens_12 : decode cX12_lessens 12 = .ok (.iaload, 1) := by decide +kernel
theorem dX12_lessens_13 : decode cX12_lessens 13 = .ok (.if_icmp .ge 66, 3) := by decide +kernel
theorem dX12_lessens_16 : decode cX12_lessens 16 = .ok (.aload_n 0, 1) := by decide +kernel
theorem dX12_lessens_17 : decode cX12_lessens 17 = .ok (.getfield 23, 3) := by decide +kernel
theorem dX12_lessens_20 : decode cX12_lessens 20 = .ok (.bipush 60, 2) := by decide +kernel
theorem dX12_lessens_22 : decode cX12_lessens 22 = .ok (.iload_n 1, 1) := by decide +kernel
theorem dX12_lessens_23 : decode cX12_lessens 23 = .ok (.imul, 1) := by decide +kernel
theorem dX12_lessens_24 : decode cX12_lessens 24 = .ok (.iload 4, 2) := by decide +kernel
theorem dX12_lessens_26 : decode cX12_lessens 26 = .ok (.iadd, 1) := by decide +kernel
theorem dX12_lessens_27 : decode cX12_lessens 27 = .ok (.iaload, 1) := by decide +kernel
theorem dX12_lessens_28 : decode cX12_lessens 28 = .ok (.aload_n 0, 1) := by decide +kernel
theorem dX12_lessens_29 : decode cX12_lessens 29 = .ok (.getfield 23, 3) := by decide +kernel
theorem dX12_lessens_32 : decode cX12_lessens 32 = .ok (.bipush 60, 2) := by decide +kernel
theorem dX12_lessens_34 : decode cX12_lessens 34 = .ok (.iload_n 2, 1) := by decide +kernel
theorem dX12_lessens_35 : decode cX12_lessens 35 = .ok (.imul, 1) := by decide +kernel
theorem dX12_lessens_36 : decode cX12_lessens 36 = .ok (.iload 4, 2) := by decide +kernel
theorem dX12_lessens_38 : decode cX12_lessens 38 = .ok (.iadd, 1) := by decide +kernel
theorem dX12_lessens_39 : decode cX12_lessens 39 = .ok (.iaload, 1) := by decide +kernel
theorem dX12_lessens_40 : decode cX12_lessens 40 = .ok (.isub, 1) := by decide +kernel
theorem dX12_lessens_41 : decode cX12_lessens 41 = .ok (.iload_n 3, 1) := by decide +kernel
theorem dX12_lessens_42 : decode cX12_lessens 42 = .ok (.isub, 1) := by decide +kernel
theorem dX12_lessens_43 : decode cX12_lessens 43 = .ok (.istore 5, 2) := by decide +kernel
theorem dX12_lessens_45 : decode cX12_lessens 45 = .ok (.aload_n 0, 1) := by decide +kernel
theorem dX12_lessens_46 : decode cX12_lessens 46 = .ok (.getfield 23, 3) := by decide +kernel
theorem dX12_lessens_49 : decode cX12_lessens 49 = .ok (.bipush 60, 2) := by decide +kernel
theorem dX12_lessens_51 : decode cX12_lessens 51 = .ok (.iload_n 1, 1) := by decide +kernel
theorem dX12_lessens_52 : decode cX12_lessens 52 = .ok (.imul, 1) := by decide +kernel
theorem dX12_lessens_53 : decode cX12_lessens 53 = .ok (.iload 4, 2) := by decide +kernel
theorem dX12_lessens_55 : decode cX12_lessens 55 = .ok (.iadd, 1) := by decide +kernel
theorem dX12_lessens_56 : decode cX12_lessens 56 = .ok (.iload 5, 2) := by decide +kernel
theorem dX12_lessens_58 : decode cX12_lessens 58 = .ok (.ldc 88, 2) := by decide +kernel
theorem dX12_lessens_60 : decode cX12_lessens 60 = .ok (.iand, 1) := by decide +kernel
theorem dX12_lessens_61 : decode cX12_lessens 61 = .ok (.iastore, 1) := by decide +kernel
theorem dX12_lessens_62 : decode cX12_lessens 62 = .ok (.iload 5, 2) := by decide +kernel
theorem dX12_lessens_64 : decode cX12_lessens 64 = .ok (.ifCond .ge 7, 3) := by decide +kernel
theorem dX12_lessens_67 : decode cX12_lessens 67 = .ok (.iconst 1, 1) := by decide +kernel
theorem dX12_lessens_68 : decode cX12_lessens 68 = .ok (.goto 4, 3) := by decide +kernel
theorem dX12_lessens_71 : decode cX12_lessens 71 = .ok (.iconst 0, 1) := by decide +kernel
theorem dX12_lessens_72 : decode cX12_lessens 72 = .ok (.istore_n 3, 1) := by decide +kernel
theorem dX12_lessens_73 : decode cX12_lessens 73 = .ok (.iinc 4 1, 3) := by decide +kernel
theorem dX12_lessens_76 : decode cX12_lessens 76 = .ok (.goto (-71), 3) := by decide +kernel
theorem dX12_lessens_79 : decode cX12_lessens 79 = .ok (.aload_n 0, 1) := by decide +kernel
theorem dX12_lessens_80 : decode cX12_lessens 80 = .ok (.iload_n 1, 1) := by decide +kernel
theorem dX12_lessens_81 : decode cX12_lessens 81 = .ok (.invokevirtual 80, 3) := by decide +kernel
theorem dX12_lessens_84 : decode cX12_lessens 84 = .ok (.return_, 1) := by decide +kernel
theorem dX12_against_0 : decode cX12_against 0 = .ok (.aload_n 0, 1) := by decide +kernel
theorem dX12_against_1 : decode cX12_against 1 = .ok (.getfield 26, 3) := by decide +kernel
theorem dX12_against_4 : decode cX12_against 4 = .ok (.iload_n 1, 1) := by decide +kernel
theorem dX12_against_5 : decode cX12_against 5 = .ok (.iaload, 1) := by decide +kernel
theorem dX12_against_6 : decode cX12_against 6 = .ok (.aload_n 0, 1) := by decide +kernel
theorem dX12_against_7 : decode cX12_against 7 = .ok (.getfield 26, 3) := by decide +kernel
theorem dX12_against_10 : decode cX12_against 10 = .ok (.iload_n 2, 1) := by decide +kernel
theorem dX12_against_11 : decode cX12_against 11 = .ok (.iaload, 1) := by decide +kernel
theorem dX12_against_12 : decode cX12_against 12 = .ok (.if_icmp .eq 24, 3) := by decide +kernel
theorem dX12_against_15 : decode cX12_against 15 = .ok (.aload_n 0, 1) := by decide +kernel
theorem dX12_against_16 : decode cX12_against 16 = .ok (.getfield 26, 3) := by decide +kernel
theorem dX12_against_19 : decode cX12_against 19 = .ok (.iload_n 1, 1) := by decide +kernel
theorem dX12_against_20 : decode cX12_against 20 = .ok (.iaload, 1) := by decide +kernel
theorem dX12_against_21 : decode cX12_against 21 = .ok (.aload_n 0, 1) := by decide +kernel
theorem dX12_against_22 : decode cX12_against 22 = .ok (.getfield 26, 3) := by decide +kernel
theorem dX12_against_25 : decode cX12_against 25 = .ok (.iload_n 2, 1) := by decide +kernel
theorem dX12_against_26 : decode cX12_against 26 = .ok (.iaload, 1) := by decide +kernel
theorem dX12_against_27 : decode cX12_against 27 = .ok (.if_icmp .ge 7, 3) := by decide +kernel
theorem dX12_against_30 : decode cX12_against 30 = .ok (.iconst (-1), 1) := by decide +kernel
theorem dX12_against_31 : decode cX12_against 31 = .ok (.goto 4, 3) := by decide +kernel
theorem dX12_against_34 : decode cX12_against 34 = .ok (.iconst 1, 1) := by decide +kernel
theorem dX12_against_35 : decode cX12_against 35 = .ok (.ireturn, 1) := by decide +kernel
theorem dX12_against_36 : decode cX12_against 36 = .ok (.aload_n 0, 1) := by decide +kernel
theorem dX12_against_37 : decode cX12_against 37 = .ok (.getfield 26, 3) := by decide +kernel
theorem dX12_against_40 : decode cX12_against 40 = .ok (.iload_n 1, 1) := by decide +kernel
theorem dX12_against_41 : decode cX12_against 41 = .ok (.iaload, 1) := by decide +kernel
theorem dX12_against_42 : decode cX12_against 42 = .ok (.iconst 1, 1) := by decide +kernel
theorem dX12_against_43 : decode cX12_against 43 = .ok (.isub, 1) := by decide +kernel
theorem dX12_against_44 : decode cX12_against 44 = .ok (.istore_n 3, 1) := by decide +kernel
theorem dX12_against_45 : decode cX12_against 45 = .ok (.iload_n 3, 1) := by decide +kernel
theorem dX12_against_46 : decode cX12_against 46 = .ok (.ifCond .lt 65, 3) := by decide +kernel
theorem dX12_against_49 : decode cX12_against 49 = .ok (.aload_n 0, 1) := by decide +kernel
theorem dX12_against_50 : decode cX12_against 50 = .ok (.getfield 23, 3) := by decide +kernel
theorem dX12_against_53 : decode cX12_against 53 = .ok (.bipush 60, 2) := by decide +kernel
theorem dX12_against_55 : decode cX12_against 55 = .ok (.iload_n 1, 1) := by decide +kernel
theorem dX12_against_56 : decode cX12_against 56 = .ok (.imul, 1) := by decide +kernel
theorem dX12_against_57 : decode cX12_against 57 = .ok (.iload_n 3, 1) := by decide +kernel
theorem dX12_against_58 : decode cX12_against 58 = .ok (.iadd, 1) := by decide +kernel
theorem dX12_against_59 : decode cX12_against 59 = .ok (.iaload, 1) := by decide +kernel
theorem dX12_against_60 : decode cX12_against 60 = .ok (.aload_n 0, 1) := by decide +kernel
theorem dX12_against_61 : decode cX12_against 61 = .ok (.getfield 23, 3) := by decide +kernel
theorem dX12_against_64 : decode cX12_against 64 = .ok (.bipush 60, 2) := by decide +kernel
theorem dX12_against_66 : decode cX12_against 66 = .ok (.iload_n 2, 1) := by decide +kernel
theorem dX12_against_67 : decode cX12_against 67 = .ok (.imul, 1) := by decide +kernel
theorem dX12_against_68 : decode cX12_against 68 = .ok (.iload_n 3, 1) := by decide +kernel
theorem dX12_against_69 : decode cX12_against 69 = .ok (.iadd, 1) := by decide +kernel
theorem dX12_against_70 : decode cX12_against 70 = .ok (.iaload, 1) := by decide +kernel
theorem dX12_against_71 : decode cX12_against 71 = .ok (.if_icmp .eq 34, 3) := by decide +kernel
theorem dX12_against_74 : decode cX12_against 74 = .ok (.aload_n 0, 1) := by decide +kernel
theorem dX12_against_75 : decode cX12_against 75 = .ok (.getfield 23, 3) := by decide +kernel
theorem dX12_against_78 : decode cX12_against 78 = .ok (.bipush 60, 2) := by decide +kernel
theorem dX12_against_80 : decode cX12_against 80 = .ok (.iload_n 1, 1) := by decide +kernel
theorem dX12_against_81 : decode cX12_against 81 = .ok (.imul, 1) := by decide +kernel
theorem dX12_against_82 : decode cX12_against 82 = .ok (.iload_n 3, 1) := by decide +kernel
theorem dX12_against_83 : decode cX12_against 83 = .ok (.iadd, 1) := by decide +kernel
theorem dX12_against_84 : decode cX12_against 84 = .ok (.iaload, 1) := by decide +kernel
theorem dX12_against_85 : decode cX12_against 85 = .ok (.aload_n 0, 1) := by decide +kernel
theorem dX12_against_86 : decode cX12_against 86 = .ok (.getfield 23, 3) := by decide +kernel
theorem dX12_against_89 : decode cX12_against 89 = .ok (.bipush 60, 2) := by decide +kernel
theorem dX12_against_91 : decode cX12_against 91 = .ok (.iload_n 2, 1) := by decide +kernel
theorem dX12_against_92 : decode cX12_against 92 = .ok (.imul, 1) := by decide +kernel
theorem dX12_against_93 : decode cX12_against 93 = .ok (.iload_n 3, 1) := by decide +kernel
theorem dX12_against_94 : decode cX12_against 94 = .ok (.iadd, 1) := by decide +kernel
theorem dX12_against_95 : decode cX12_against 95 = .ok (.iaload, 1) := by decide +kernel
theorem dX12_against_96 : decode cX12_against 96 = .ok (.if_icmp .ge 7, 3) := by decide +kernel
theorem dX12_against_99 : decode cX12_against 99 = .ok (.iconst (-1), 1) := by decide +kernel
theorem dX12_against_100 : decode cX12_against 100 = .ok (.goto 4, 3) := by decide +kernel
theorem dX12_against_103 : decode cX12_against 103 = .ok (.iconst 1, 1) := by decide +kernel
theorem dX12_against_104 : decode cX12_against 104 = .ok (.ireturn, 1) := by decide +kernel
theorem dX12_against_105 : decode cX12_against 105 = .ok (.iinc 3 (-1), 3) := by decide +kernel
theorem dX12_against_108 : decode cX12_against 108 = .ok (.goto (-63), 3) := by decide +kernel
theorem dX12_against_111 : decode cX12_against 111 = .ok (.iconst 0, 1) := by decide +kernel
theorem dX12_against_112 : decode cX12_against 112 = .ok (.ireturn, 1) := by decide +kernel
theorem dX12_isEven_0 : decode cX12_isEven 0 = .ok (.aload_n 0, 1) := by decide +kernel
theorem dX12_isEven_1 : decode cX12_isEven 1 = .ok (.getfield 23, 3) := by decide +kernel
theorem dX12_isEven_4 : decode cX12_isEven 4 = .ok (.bipush 60, 2) := by decide +kernel
theorem dX12_isEven_6 : decode cX12_isEven 6 = .ok (.iload_n 1, 1) := by decide +kernel
theorem dX12_isEven_7 : decode cX12_isEven 7 = .ok (.imul, 1) := by decide +kernel
theorem dX12_isEven_8 : decode cX12_isEven 8 = .ok (.iaload, 1) := by decide +kernel
theorem dX12_isEven_9 : decode cX12_isEven 9 = .ok (.iconst 1, 1) := by decide +kernel
theorem dX12_isEven_10 : decode cX12_isEven 10 = .ok (.iand, 1) := by decide +kernel
theorem dX12_isEven_11 : decode cX12_isEven 11 = .ok (.ifCond .ne 7, 3) := by decide +kernel
theorem dX12_isEven_14 : decode cX12_isEven 14 = .ok (.iconst 1, 1) := by decide +kernel
theorem dX12_isEven_15 : decode cX12_isEven 15 = .ok (.goto 4, 3) := by decide +kernel
theorem dX12_isEven_18 : decode cX12_isEven 18 = .ok (.iconst 0, 1) := by decide +kernel
theorem dX12_isEven_19 : decode cX12_isEven 19 = .ok (.ireturn, 1) := by decide +kernel
theorem dX12_halves_0 : decode cX12_halves 0 = .ok (.iconst 0, 1) := by decide +kernel
theorem dX12_halves_1 : decode cX12_halves 1 = .ok (.istore_n 2, 1) := by decide +kernel
theorem dX12_halves_2 : decode cX12_halves 2 = .ok (.iload_n 2, 1) := by decide +kernel
theorem dX12_halves_3 : decode cX12_halves 3 = .ok (.aload_n 0, 1) := by decide +kernel
theorem dX12_halves_4 : decode cX12_halves 4 = .ok (.getfield 26, 3) := by decide +kernel
theorem dX12_halves_7 : decode cX12_halves 7 = .ok (.iload_n 1, 1) := by decide +kernel
theorem dX12_halves_8 : decode cX12_halves 8 = .ok (.iaload, 1) := by decide +kernel
theorem dX12_halves_9 : decode cX12_halves 9 = .ok (.if_icmp .ge 70, 3) := by decide +kernel
theorem dX12_halves_12 : decode cX12_halves 12 = .ok (.iload_n 2, 1) := by decide +kernel
theorem dX12_halves_13 : decode cX12_halves 13 = .ok (.iconst 1, 1) := by decide +kernel
theorem dX12_halves_14 : decode cX12_halves 14 = .ok (.iadd, 1) := by decide +kernel
theorem dX12_halves_15 : decode cX12_halves 15 = .ok (.aload_n 0, 1) := by decide +kernel
theorem dX12_halves_16 : decode cX12_halves 16 = .ok (.getfield 26, 3) := by decide +kernel
theorem dX12_halves_19 : decode cX12_halves 19 = .ok (.iload_n 1, 1) := by decide +kernel
theorem dX12_halves_20 : decode cX12_halves 20 = .ok (.iaload, 1) := by decide +kernel
theorem dX12_halves_21 : decode cX12_halves 21 = .ok (.if_icmp .ge 21, 3) := by decide +kernel
theorem dX12_halves_24 : decode cX12_halves 24 = .ok (.aload_n 0, 1) := by decide +kernel
theorem dX12_halves_25 : decode cX12_halves 25 = .ok (.getfield 23, 3) := by decide +kernel
theorem dX12_halves_28 : decode cX12_halves 28 = .ok (.bipush 60, 2) := by decide +kernel
theorem dX12_halves_30 : decode cX12_halves 30 = .ok (.iload_n 1, 1) := by decide +kernel
theorem dX12_halves_31 : decode cX12_halves 31 = .ok (.imul, 1) := by decide +kernel
theorem dX12_halves_32 : decode cX12_halves 32 = .ok (.iload_n 2, 1) := by decide +kernel
theorem dX12_halves_33 : decode cX12_halves 33 = .ok (.iadd, 1) := by decide +kernel
theorem dX12_halves_34 : decode cX12_halves 34 = .ok (.iconst 1, 1) := by decide +kernel
theorem dX12_halves_35 : decode cX12_halves 35 = .ok (.iadd, 1) := by decide +kernel
theorem dX12_halves_36 : decode cX12_halves 36 = .ok (.iaload, 1) := by decide +kernel
theorem dX12_halves_37 : decode cX12_halves 37 = .ok (.iconst 1, 1) := by decide +kernel
theorem dX12_halves_38 : decode cX12_halves 38 = .ok (.iand, 1) := by decide +kernel
theorem dX12_halves_39 : decode cX12_halves 39 = .ok (.goto 4, 3) := by decide +kernel
theorem dX12_halves_42 : decode cX12_halves 42 = .ok (.iconst 0, 1) := by decide +kernel
theorem dX12_halves_43 : decode cX12_halves 43 = .ok (.istore_n 3, 1) := by decide +kernel
theorem dX12_halves_44 : decode cX12_halves 44 = .ok (.aload_n 0, 1) := by decide +kernel
theorem dX12_halves_45 : decode cX12_halves 45 = .ok (.getfield 23, 3) := by decide +kernel
theorem dX12_halves_48 : decode cX12_halves 48 = .ok (.bipush 60, 2) := by decide +kernel
theorem dX12_halves_50 : decode cX12_halves 50 = .ok (.iload_n 1, 1) := by decide +kernel
theorem dX12_halves_51 : decode cX12_halves 51 = .ok (.imul, 1) := by decide +kernel
theorem dX12_halves_52 : decode cX12_halves 52 = .ok (.iload_n 2, 1) := by decide +kernel
theorem dX12_halves_53 : decode cX12_halves 53 = .ok (.iadd, 1) := by decide +kernel
theorem dX12_halves_54 : decode cX12_halves 54 = .ok (.aload_n 0, 1) := by decide +kernel
theorem dX12_halves_55 : decode cX12_halves 55 = .ok (.getfield 23, 3) := by decide +kernel
theorem dX12_halves_58 : decode cX12_halves 58 = .ok (.bipush 60, 2) := by decide +kernel
theorem dX12_halves_60 : decode cX12_halves 60 = .ok (.iload_n 1, 1) := by decide +kernel
theorem dX12_halves_61 : decode cX12_halves 61 = .ok (.imul, 1) := by decide +kernel
theorem dX12_halves_62 : decode cX12_halves 62 = .ok (.iload_n 2, 1) := by decide +kernel
theorem dX12_halves_63 : decode cX12_halves 63 = .ok (.iadd, 1) := by decide +kernel
theorem dX12_halves_64 : decode cX12_halves 64 = .ok (.iaload, 1) := by decide +kernel
theorem dX12_halves_65 : decode cX12_halves 65 = .ok (.iconst 1, 1) := by decide +kernel
theorem dX12_halves_66 : decode cX12_halves 66 = .ok (.ishr, 1) := by decide +kernel
theorem dX12_halves_67 : decode cX12_halves 67 = .ok (.iload_n 3, 1) := by decide +kernel
theorem dX12_halves_68 : decode cX12_halves 68 = .ok (.bipush 29, 2) := by decide +kernel
theorem dX12_halves_70 : decode cX12_halves 70 = .ok (.ishl, 1) := by decide +kernel
theorem dX12_halves_71 : decode cX12_halves 71 = .ok (.ior, 1) := by decide +kernel
theorem dX12_halves_72 : decode cX12_halves 72 = .ok (.iastore, 1) := by decide +kernel
theorem dX12_halves_73 : decode cX12_halves 73 = .ok (.iinc 2 1, 3) := by decide +kernel
theorem dX12_halves_76 : decode cX12_halves 76 = .ok (.goto (-74), 3) := by decide +kernel
theorem dX12_halves_79 : decode cX12_halves 79 = .ok (.aload_n 0, 1) := by decide +kernel
theorem dX12_halves_80 : decode cX12_halves 80 = .ok (.iload_n 1, 1) := by decide +kernel
theorem dX12_halves_81 : decode cX12_halves 81 = .ok (.invokevirtual 80, 3) := by decide +kernel
theorem dX12_halves_84 : decode cX12_halves 84 = .ok (.return_, 1) := by decide +kernel
theorem dX12_lowers_0 : decode cX12_lowers 0 = .ok (.aload_n 0, 1) := by decide +kernel
theorem dX12_lowers_1 : decode cX12_lowers 1 = .ok (.getfield 26, 3) := by decide +kernel
theorem dX12_lowers_4 : decode cX12_lowers 4 = .ok (.iconst 0, 1) := by decide +kernel
theorem dX12_lowers_5 : decode cX12_lowers 5 = .ok (.iaload, 1) := by decide +kernel
theorem dX12_lowers_6 : decode cX12_lowers 6 = .ok (.ifCond .ne 10, 3) := by decide +kernel
theorem dX12_lowers_9 : decode cX12_lowers 9 = .ok (.aload_n 0, 1) := by decide +kernel
theorem dX12_lowers_10 : decode cX12_lowers 10 = .ok (.iconst 1, 1) := by decide +kernel
theorem dX12_lowers_11 : decode cX12_lowers 11 = .ok (.lconst 1, 1) := by decide +kernel
theorem dX12_lowers_12 : decode cX12_lowers 12 = .ok (.invokevirtual 74, 3) := by decide +kernel
theorem dX12_lowers_15 : decode cX12_lowers 15 = .ok (.return_, 1) := by decide +kernel
theorem dX12_lowers_16 : decode cX12_lowers 16 = .ok (.aload_n 0, 1) := by decide +kernel
theorem dX12_lowers_17 : decode cX12_lowers 17 = .ok (.iconst 0, 1) := by decide +kernel
theorem dX12_lowers_18 : decode cX12_lowers 18 = .ok (.invokevirtual 89, 3) := by decide +kernel
theorem dX12_lowers_21 : decode cX12_lowers 21 = .ok (.ifCond .eq 24, 3) := by decide +kernel
theorem dX12_lowers_24 : decode cX12_lowers 24 = .ok (.aload_n 0, 1) := by decide +kernel
theorem dX12_lowers_25 : decode cX12_lowers 25 = .ok (.iconst 1, 1) := by decide +kernel
theorem dX12_lowers_26 : decode cX12_lowers 26 = .ok (.invokevirtual 89, 3) := by decide +kernel
theorem dX12_lowers_29 : decode cX12_lowers 29 = .ok (.ifCond .eq 16, 3) := by decide +kernel
theorem dX12_lowers_32 : decode cX12_lowers 32 = .ok (.aload_n 0, 1) := by decide +kernel
theorem dX12_lowers_33 : decode cX12_lowers 33 = .ok (.iconst 0, 1) := by decide +kernel
theorem dX12_lowers_34 : decode cX12_lowers 34 = .ok (.invokevirtual 93, 3) := by decide +kernel
theorem dX12_lowers_37 : decode cX12_lowers 37 = .ok (.aload_n 0, 1) := by decide +kernel
theorem dX12_lowers_38 : decode cX12_lowers 38 = .ok (.iconst 1, 1) := by decide +kernel
theorem dX12_lowers_39 : decode cX12_lowers 39 = .ok (.invokevirtual 93, 3) := by decide +kernel
theorem dX12_lowers_42 : decode cX12_lowers 42 = .ok (.goto (-26), 3) := by decide +kernel
theorem dX12_lowers_45 : decode cX12_lowers 45 = .ok (.aload_n 0, 1) := by decide +kernel
theorem dX12_lowers_46 : decode cX12_lowers 46 = .ok (.iconst 2, 1) := by decide +kernel
theorem dX12_lowers_47 : decode cX12_lowers 47 = .ok (.iconst 0, 1) := by decide +kernel
theorem dX12_lowers_48 : decode cX12_lowers 48 = .ok (.invokevirtual 84, 3) := by decide +kernel
theorem dX12_lowers_51 : decode cX12_lowers 51 = .ok (.aload_n 0, 1) := by decide +kernel
theorem dX12_lowers_52 : decode cX12_lowers 52 = .ok (.iconst 3, 1) := by decide +kernel
theorem dX12_lowers_53 : decode cX12_lowers 53 = .ok (.iconst 1, 1) := by decide +kernel
theorem dX12_lowers_54 : decode cX12_lowers 54 = .ok (.invokevirtual 84, 3) := by decide +kernel
theorem dX12_lowers_57 : decode cX12_lowers 57 = .ok (.aload_n 0, 1) := by decide +kernel
theorem dX12_lowers_58 : decode cX12_lowers 58 = .ok (.getfield 26, 3) := by decide +kernel
theorem dX12_lowers_61 : decode cX12_lowers 61 = .ok (.iconst 2, 1) := by decide +kernel
theorem dX12_lowers_62 : decode cX12_lowers 62 = .ok (.iaload, 1) := by decide +kernel
theorem dX12_lowers_63 : decode cX12_lowers 63 = .ok (.ifCond .le 82, 3) := by decide +kernel
theorem dX12_lowers_66 : decode cX12_lowers 66 = .ok (.aload_n 0, 1) := by decide +kernel
theorem dX12_lowers_67 : decode cX12_lowers 67 = .ok (.iconst 2, 1) := by decide +kernel
theorem dX12_lowers_68 : decode cX12_lowers 68 = .ok (.invokevirtual 89, 3) := by decide +kernel
theorem dX12_lowers_71 : decode cX12_lowers 71 = .ok (.ifCond .eq 11, 3) := by decide +kernel
theorem dX12_lowers_74 : decode cX12_lowers 74 = .ok (.aload_n 0, 1) := by decide +kernel
theorem dX12_lowers_75 : decode cX12_lowers 75 = .ok (.iconst 2, 1) := by decide +kernel
theorem dX12_lowers_76 : decode cX12_lowers 76 = .ok (.invokevirtual 93, 3) := by decide +kernel
theorem dX12_lowers_79 : decode cX12_lowers 79 = .ok (.goto (-13), 3) := by decide +kernel
theorem dX12_lowers_82 : decode cX12_lowers 82 = .ok (.aload_n 0, 1) := by decide +kernel
theorem dX12_lowers_83 : decode cX12_lowers 83 = .ok (.iconst 3, 1) := by decide +kernel
theorem dX12_lowers_84 : decode cX12_lowers 84 = .ok (.invokevirtual 89, 3) := by decide +kernel
theorem dX12_lowers_87 : decode cX12_lowers 87 = .ok (.ifCond .eq 11, 3) := by decide +kernel
theorem dX12_lowers_90 : decode cX12_lowers 90 = .ok (.aload_n 0, 1) := by decide +kernel
theorem dX12_lowers_91 : decode cX12_lowers 91 = .ok (.iconst 3, 1) := by decide +kernel
theorem dX12_lowers_92 : decode cX12_lowers 92 = .ok (.invokevirtual 93, 3) := by decide +kernel
theorem dX12_lowers_95 : decode cX12_lowers 95 = .ok (.goto (-13), 3) := by decide +kernel
theorem dX12_lowers_98 : decode cX12_lowers 98 = .ok (.aload_n 0, 1) := by decide +kernel
theorem dX12_lowers_99 : decode cX12_lowers 99 = .ok (.iconst 2, 1) := by decide +kernel
theorem dX12_lowers_100 : decode cX12_lowers 100 = .ok (.iconst 3, 1) := by decide +kernel
theorem dX12_lowers_101 : decode cX12_lowers 101 = .ok (.invokevirtual 96, 3) := by decide +kernel
theorem dX12_lowers_104 : decode cX12_lowers 104 = .ok (.ifCond .lt 7, 3) := by decide +kernel
theorem dX12_lowers_107 : decode cX12_lowers 107 = .ok (.iconst 2, 1) := by decide +kernel
theorem dX12_lowers_108 : decode cX12_lowers 108 = .ok (.goto 4, 3) := by decide +kernel
theorem dX12_lowers_111 : decode cX12_lowers 111 = .ok (.iconst 3, 1) := by decide +kernel
theorem dX12_lowers_112 : decode cX12_lowers 112 = .ok (.istore_n 1, 1) := by decide +kernel
theorem dX12_lowers_113 : decode cX12_lowers 113 = .ok (.aload_n 0, 1) := by decide +kernel
theorem dX12_lowers_114 : decode cX12_lowers 114 = .ok (.iload_n 1, 1) := by decide +kernel
theorem dX12_lowers_115 : decode cX12_lowers 115 = .ok (.iconst 5, 1) := by decide +kernel
theorem dX12_lowers_116 : decode cX12_lowers 116 = .ok (.iload_n 1, 1) := by decide +kernel
theorem dX12_lowers_117 : decode cX12_lowers 117 = .ok (.isub, 1) := by decide +kernel
theorem dX12_lowers_118 : decode cX12_lowers 118 = .ok (.invokevirtual 100, 3) := by decide +kernel
theorem dX12_lowers_121 : decode cX12_lowers 121 = .ok (.aload_n 0, 1) := by decide +kernel
theorem dX12_lowers_122 : decode cX12_lowers 122 = .ok (.getfield 26, 3) := by decide +kernel
theorem dX12_lowers_125 : decode cX12_lowers 125 = .ok (.iconst 3, 1) := by decide +kernel
theorem dX12_lowers_126 : decode cX12_lowers 126 = .ok (.iaload, 1) := by decide +kernel
theorem dX12_lowers_127 : decode cX12_lowers 127 = .ok (.ifCond .ne 15, 3) := by decide +kernel
theorem dX12_lowers_130 : decode cX12_lowers 130 = .ok (.aload_n 0, 1) := by decide +kernel
theorem dX12_lowers_131 : decode cX12_lowers 131 = .ok (.iconst 3, 1) := by decide +kernel
theorem dX12_lowers_132 : decode cX12_lowers 132 = .ok (.iconst 2, 1) := by decide +kernel
theorem dX12_lowers_133 : decode cX12_lowers 133 = .ok (.invokevirtual 84, 3) := by decide +kernel
theorem dX12_lowers_136 : decode cX12_lowers 136 = .ok (.aload_n 0, 1) := by decide +kernel
theorem dX12_lowers_137 : decode cX12_lowers 137 = .ok (.iconst 2, 1) := by decide +kernel
theorem dX12_lowers_138 : decode cX12_lowers 138 = .ok (.lconst 0, 1) := by decide +kernel
theorem dX12_lowers_139 : decode cX12_lowers 139 = .ok (.invokevirtual 74, 3) := by decide +kernel
theorem dX12_lowers_142 : decode cX12_lowers 142 = .ok (.goto (-85), 3) := by decide +kernel
theorem dX12_lowers_145 : decode cX12_lowers 145 = .ok (.aload_n 0, 1) := by decide +kernel
theorem dX12_lowers_146 : decode cX12_lowers 146 = .ok (.iconst 0, 1) := by decide +kernel
theorem dX12_lowers_147 : decode cX12_lowers 147 = .ok (.invokevirtual 103, 3) := by decide +kernel
theorem dX12_lowers_150 : decode cX12_lowers 150 = .ok (.aload_n 0, 1) := by decide +kernel
theorem dX12_lowers_151 : decode cX12_lowers 151 = .ok (.iconst 1, 1) := by decide +kernel
theorem dX12_lowers_152 : decode cX12_lowers 152 = .ok (.invokevirtual 103, 3) := by decide +kernel
theorem dX12_lowers_155 : decode cX12_lowers 155 = .ok (.return_, 1) := by decide +kernel
theorem dX12_parts_0 : decode cX12_parts 0 = .ok (.iconst 1, 1) := by decide +kernel
theorem dX12_parts_1 : decode cX12_parts 1 = .ok (.istore_n 2, 1) := by decide +kernel
theorem dX12_parts_2 : decode cX12_parts 2 = .ok (.iconst 0, 1) := by decide +kernel
theorem dX12_parts_3 : decode cX12_parts 3 = .ok (.istore_n 3, 1) := by decide +kernel
theorem dX12_parts_4 : decode cX12_parts 4 = .ok (.iload_n 3, 1) := by decide +kernel
theorem dX12_parts_5 : decode cX12_parts 5 = .ok (.iconst 5, 1) := by decide +kernel
theorem dX12_parts_6 : decode cX12_parts 6 = .ok (.if_icmp .ge 24, 3) := by decide +kernel
theorem dX12_parts_9 : decode cX12_parts 9 = .ok (.iload_n 2, 1) := by decide +kernel
theorem dX12_parts_10 : decode cX12_parts 10 = .ok (.iconst 2, 1) := by decide +kernel
theorem dX12_parts_11 : decode cX12_parts 11 = .ok (.aload_n 0, 1) := by decide +kernel
theorem dX12_parts_12 : decode cX12_parts 12 = .ok (.getfield 23, 3) := by decide +kernel
theorem dX12_parts_15 : decode cX12_parts 15 = .ok (.sipush 180, 3) := by decide +kernel
theorem dX12_parts_18 : decode cX12_parts 18 = .ok (.iaload, 1) := by decide +kernel
theorem dX12_parts_19 : decode cX12_parts 19 = .ok (.iload_n 2, 1) := by decide +kernel
theorem dX12_parts_20 : decode cX12_parts 20 = .ok (.imul, 1) := by decide +kernel
theorem dX12_parts_21 : decode cX12_parts 21 = .ok (.isub, 1) := by decide +kernel
theorem dX12_parts_22 : decode cX12_parts 22 = .ok (.imul, 1) := by decide +kernel
theorem dX12_parts_23 : decode cX12_parts 23 = .ok (.istore_n 2, 1) := by decide +kernel
theorem dX12_parts_24 : decode cX12_parts 24 = .ok (.iinc 3 1, 3) := by decide +kernel
theorem dX12_parts_27 : decode cX12_parts 27 = .ok (.goto (-23), 3) := by decide +kernel
theorem dX12_parts_30 : decode cX12_parts 30 = .ok (.aload_n 0, 1) := by decide +kernel
theorem dX12_parts_31 : decode cX12_parts 31 = .ok (.getfield 26, 3) := by decide +kernel
theorem dX12_parts_34 : decode cX12_parts 34 = .ok (.iload_n 1, 1) := by decide +kernel
theorem dX12_parts_35 : decode cX12_parts 35 = .ok (.iaload, 1) := by decide +kernel
theorem dX12_parts_36 : decode cX12_parts 36 = .ok (.istore_n 3, 1) := by decide +kernel
theorem dX12_parts_37 : decode cX12_parts 37 = .ok (.iconst 0, 1) := by decide +kernel
theorem dX12_parts_38 : decode cX12_parts 38 = .ok (.istore 4, 2) := by decide +kernel
theorem dX12_parts_40 : decode cX12_parts 40 = .ok (.iload 4, 2) := by decide +kernel
theorem dX12_parts_42 : decode cX12_parts 42 = .ok (.iload_n 3, 1) := by decide +kernel
theorem dX12_parts_43 : decode cX12_parts 43 = .ok (.if_icmp .ge 149, 3) := by decide +kernel
theorem dX12_parts_46 : decode cX12_parts 46 = .ok (.aload_n 0, 1) := by decide +kernel
theorem dX12_parts_47 : decode cX12_parts 47 = .ok (.getfield 23, 3) := by decide +kernel
theorem dX12_parts_50 : decode cX12_parts 50 = .ok (.bipush 60, 2) := by decide +kernel
theorem dX12_parts_52 : decode cX12_parts 52 = .ok (.iload_n 1, 1) := by decide +kernel
theorem dX12_parts_53 : decode cX12_parts 53 = .ok (.imul, 1) := by decide +kernel
theorem dX12_parts_54 : decode cX12_parts 54 = .ok (.iload 4, 2) := by decide +kernel
theorem dX12_parts_56 : decode cX12_parts 56 = .ok (.iadd, 1) := by decide +kernel
theorem dX12_parts_57 : decode cX12_parts 57 = .ok (.iaload, 1) := by decide +kernel
theorem dX12_parts_58 : decode cX12_parts 58 = .ok (.iload_n 2, 1) := by decide +kernel
theorem dX12_parts_59 : decode cX12_parts 59 = .ok (.imul, 1) := by decide +kernel
theorem dX12_parts_60 : decode cX12_parts 60 = .ok (.ldc 88, 2) := by decide +kernel
theorem dX12_parts_62 : decode cX12_parts 62 = .ok (.iand, 1) := by decide +kernel
theorem dX12_parts_63 : decode cX12_parts 63 = .ok (.istore 5, 2) := by decide +kernel
theorem dX12_parts_65 : decode cX12_parts 65 = .ok (.lconst 0, 1) := by decide +kernel
theorem dX12_parts_66 : decode cX12_parts 66 = .ok (.lstore 6, 2) := by decide +kernel
theorem dX12_parts_68 : decode cX12_parts 68 = .ok (.iconst 0, 1) := by decide +kernel
theorem dX12_parts_69 : decode cX12_parts 69 = .ok (.istore 8, 2) := by decide +kernel
theorem dX12_parts_71 : decode cX12_parts 71 = .ok (.iload 4, 2) := by decide +kernel
theorem dX12_parts_73 : decode cX12_parts 73 = .ok (.iload 8, 2) := by decide +kernel
theorem dX12_parts_75 : decode cX12_parts 75 = .ok (.iadd, 1) := by decide +kernel
theorem dX12_parts_76 : decode cX12_parts 76 = .ok (.iload_n 3, 1) := by decide +kernel
theorem dX12_parts_77 : decode cX12_parts 77 = .ok (.if_icmp .ge 96, 3) := by decide +kernel
theorem dX12_parts_80 : decode cX12_parts 80 = .ok (.iload 8, 2) := by decide +kernel
theorem dX12_parts_82 : decode cX12_parts 82 = .ok (.aload_n 0, 1) := by decide +kernel
theorem dX12_parts_83 : decode cX12_parts 83 = .ok (.getfield 26, 3) := by decide +kernel
theorem dX12_parts_86 : decode cX12_parts 86 = .ok (.iconst 3, 1) := by decide +kernel
theorem dX12_parts_87 : decode cX12_parts 87 = .ok (.iaload, 1) := by decide +kernel
theorem dX12_parts_88 : decode cX12_parts 88 = .ok (.if_icmp .ge 22, 3) := by decide +kernel
theorem dX12_parts_91 : decode cX12_parts 91 = .ok (.iload 5, 2) := by decide +kernel
theorem dX12_parts_93 : decode cX12_parts 93 = .ok (.i2l, 1) := by decide +kernel
theorem dX12_parts_94 : decode cX12_parts 94 = .ok (.aload_n 0, 1) := by decide +kernel
theorem dX12_parts_95 : decode cX12_parts 95 = .ok (.getfield 23, 3) := by decide +kernel
theorem dX12_parts_98 : decode cX12_parts 98 = .ok (.sipush 180, 3) := by decide +kernel
theorem dX12_parts_101 : decode cX12_parts 101 = .ok (.iload 8, 2) := by decide +kernel
theorem dX12_parts_103 : decode cX12_parts 103 = .ok (.iadd, 1) := by decide +kernel
theorem dX12_parts_104 : decode cX12_parts 104 = .ok (.iaload, 1) := by decide +kernel
theorem dX12_parts_105 : decode cX12_parts 105 = .ok (.i2l, 1) := by decide +kernel
theorem dX12_parts_106 : decode cX12_parts 106 = .ok (.lmul, 1) := by decide +kernel
theorem dX12_parts_107 : decode cX12_parts 107 = .ok (.goto 4, 3) := by decide +kernel
theorem dX12_parts_110 : decode cX12_parts 110 = .ok (.lconst 0, 1) := by decide +kernel
theorem dX12_parts_111 : decode cX12_parts 111 = .ok (.lstore 9, 2) := by decide +kernel
theorem dX12_parts_113 : decode cX12_parts 113 = .ok (.aload_n 0, 1) := by decide +kernel
theorem dX12_parts_114 : decode cX12_parts 114 = .ok (.getfield 23, 3) := by decide +kernel
theorem dX12_parts_117 : decode cX12_parts 117 = .ok (.bipush 60, 2) := by decide +kernel
theorem dX12_parts_119 : decode cX12_parts 119 = .ok (.iload_n 1, 1) := by decide +kernel
theorem dX12_parts_120 : decode cX12_parts 120 = .ok (.imul, 1) := by decide +kernel
theorem dX12_parts_121 : decode cX12_parts 121 = .ok (.iload 4, 2) := by decide +kernel
theorem dX12_parts_123 : decode cX12_parts 123 = .ok (.iadd, 1) := by decide +kernel
theorem dX12_parts_124 : decode cX12_parts 124 = .ok (.iload 8, 2) := by decide +kernel
theorem dX12_parts_126 : decode cX12_parts 126 = .ok (.iadd, 1) := by decide +kernel
theorem dX12_parts_127 : decode cX12_parts 127 = .ok (.iaload, 1) := by decide +kernel
theorem dX12_parts_128 : decode cX12_parts 128 = .ok (.i2l, 1) := by decide +kernel
theorem dX12_parts_129 : decode cX12_parts 129 = .ok (.lload 9, 2) := by decide +kernel
theorem dX12_parts_131 : decode cX12_parts 131 = .ok (.lsub, 1) := by decide +kernel
theorem dX12_parts_132 : decode cX12_parts 132 = .ok (.lload 6, 2) := by decide +kernel
theorem dX12_parts_134 : decode cX12_parts 134 = .ok (.lsub, 1) := by decide +kernel
theorem dX12_parts_135 : decode cX12_parts 135 = .ok (.lstore 11, 2) := by decide +kernel
theorem dX12_parts_137 : decode cX12_parts 137 = .ok (.aload_n 0, 1) := by decide +kernel
theorem dX12_parts_138 : decode cX12_parts 138 = .ok (.getfield 23, 3) := by decide +kernel
theorem dX12_parts_141 : decode cX12_parts 141 = .ok (.bipush 60, 2) := by decide +kernel
theorem dX12_parts_143 : decode cX12_parts 143 = .ok (.iload_n 1, 1) := by decide +kernel
theorem dX12_parts_144 : decode cX12_parts 144 = .ok (.imul, 1) := by decide +kernel
theorem dX12_parts_145 : decode cX12_parts 145 = .ok (.iload 4, 2) := by decide +kernel
theorem dX12_parts_147 : decode cX12_parts 147 = .ok (.iadd, 1) := by decide +kernel
theorem dX12_parts_148 : decode cX12_parts 148 = .ok (.iload 8, 2) := by decide +kernel
theorem dX12_parts_150 : decode cX12_parts 150 = .ok (.iadd, 1) := by decide +kernel
theorem dX12_parts_151 : decode cX12_parts 151 = .ok (.lload 11, 2) := by decide +kernel
theorem dX12_parts_153 : decode cX12_parts 153 = .ok (.ldc2_w 78, 3) := by decide +kernel
theorem dX12_parts_156 : decode cX12_parts 156 = .ok (.land, 1) := by decide +kernel
theorem dX12_parts_157 : decode cX12_parts 157 = .ok (.l2i, 1) := by decide +kernel
theorem dX12_parts_158 : decode cX12_parts 158 = .ok (.iastore, 1) := by decide +kernel
theorem dX12_parts_159 : decode cX12_parts 159 = .ok (.lload 11, 2) := by decide +kernel
theorem dX12_parts_161 : decode cX12_parts 161 = .ok (.bipush 30, 2) := by decide +kernel
theorem dX12_parts_163 : decode cX12_parts 163 = .ok (.lshr, 1) := by decide +kernel
theorem dX12_parts_164 : decode cX12_parts 164 = .ok (.lneg, 1) := by decide +kernel
theorem dX12_parts_165 : decode cX12_parts 165 = .ok (.lstore 6, 2) := by decide +kernel
theorem dX12_parts_167 : decode cX12_parts 167 = .ok (.iinc 8 1, 3) := by decide +kernel
theorem dX12_parts_170 : decode cX12_parts 170 = .ok (.goto (-99), 3) := by decide +kernel
theorem dX12_parts_173 : decode cX12_parts 173 = .ok (.aload_n 0, 1) := by decide +kernel
theorem dX12_parts_174 : decode cX12_parts 174 = .ok (.getfield 23, 3) := by decide +kernel
theorem dX12_parts_177 : decode cX12_parts 177 = .ok (.sipush 240, 3) := by decide +kernel
theorem dX12_parts_180 : decode cX12_parts 180 = .ok (.iload 4, 2) := by decide +kernel
theorem dX12_parts_182 : decode cX12_parts 182 = .ok (.iadd, 1) := by decide +kernel
theorem dX12_parts_183 : decode cX12_parts 183 = .ok (.iload 5, 2) := by decide +kernel
theorem dX12_parts_185 : decode cX12_parts 185 = .ok (.iastore, 1) := by decide +kernel
theorem dX12_parts_186 : decode cX12_parts 186 = .ok (.iinc 4 1, 3) := by decide +kernel
theorem dX12_parts_189 : decode cX12_parts 189 = .ok (.goto (-149), 3) := by decide +kernel
theorem dX12_parts_192 : decode cX12_parts 192 = .ok (.iconst 0, 1) := by decide +kernel
theorem dX12_parts_193 : decode cX12_parts 193 = .ok (.istore 4, 2) := by decide +kernel
theorem dX12_parts_195 : decode cX12_parts 195 = .ok (.iload 4, 2) := by decide +kernel
theorem dX12_parts_197 : decode cX12_parts 197 = .ok (.iload_n 3, 1) := by decide +kernel
theorem dX12_parts_198 : decode cX12_parts 198 = .ok (.if_icmp .ge 32, 3) := by decide +kernel
theorem dX12_parts_201 : decode cX12_parts 201 = .ok (.aload_n 0, 1) := by decide +kernel
theorem dX12_parts_202 : decode cX12_parts 202 = .ok (.getfield 23, 3) := by decide +kernel
theorem dX12_parts_205 : decode cX12_parts 205 = .ok (.bipush 60, 2) := by decide +kernel
theorem dX12_parts_207 : decode cX12_parts 207 = .ok (.iload_n 1, 1) := by decide +kernel
theorem dX12_parts_208 : decode cX12_parts 208 = .ok (.imul, 1) := by decide +kernel
theorem dX12_parts_209 : decode cX12_parts 209 = .ok (.iload 4, 2) := by decide +kernel
theorem dX12_parts_211 : decode cX12_parts 211 = .ok (.iadd, 1) := by decide +kernel
theorem dX12_parts_212 : decode cX12_parts 212 = .ok (.aload_n 0, 1) := by decide +kernel
theorem dX12_parts_213 : decode cX12_parts 213 = .ok (.getfield 23, 3) := by decide +kernel
theorem dX12_parts_216 : decode cX12_parts 216 = .ok (.sipush 240, 3) := by decide +kernel
theorem dX12_parts_219 : decode cX12_parts 219 = .ok (.iload 4, 2) := by decide +kernel
theorem dX12_parts_221 : decode cX12_parts 221 = .ok (.iadd, 1) := by decide +kernel
theorem dX12_parts_222 : decode cX12_parts 222 = .ok (.iaload, 1) := by decide +kernel
theorem dX12_parts_223 : decode cX12_parts 223 = .ok (.iastore, 1) := by decide +kernel
theorem dX12_parts_224 : decode cX12_parts 224 = .ok (.iinc 4 1, 3) := by decide +kernel
theorem dX12_parts_227 : decode cX12_parts 227 = .ok (.goto (-32), 3) := by decide +kernel
theorem dX12_parts_230 : decode cX12_parts 230 = .ok (.aload_n 0, 1) := by decide +kernel
theorem dX12_parts_231 : decode cX12_parts 231 = .ok (.iload_n 1, 1) := by decide +kernel
theorem dX12_parts_232 : decode cX12_parts 232 = .ok (.invokevirtual 80, 3) := by decide +kernel
theorem dX12_parts_235 : decode cX12_parts 235 = .ok (.return_, 1) := by decide +kernel
theorem dX12_told_0 : decode cX12_told 0 = .ok (.aload_n 0, 1) := by decide +kernel
theorem dX12_told_1 : decode cX12_told 1 = .ok (.iconst 0, 1) := by decide +kernel
theorem dX12_told_2 : decode cX12_told 2 = .ok (.lload_n 1, 1) := by decide +kernel
theorem dX12_told_3 : decode cX12_told 3 = .ok (.invokevirtual 74, 3) := by decide +kernel
theorem dX12_told_6 : decode cX12_told 6 = .ok (.aload_n 0, 1) := by decide +kernel
theorem dX12_told_7 : decode cX12_told 7 = .ok (.iconst 1, 1) := by decide +kernel
theorem dX12_told_8 : decode cX12_told 8 = .ok (.lload_n 3, 1) := by decide +kernel
theorem dX12_told_9 : decode cX12_told 9 = .ok (.invokevirtual 74, 3) := by decide +kernel
theorem dX12_told_12 : decode cX12_told 12 = .ok (.aload_n 0, 1) := by decide +kernel
theorem dX12_told_13 : decode cX12_told 13 = .ok (.invokevirtual 106, 3) := by decide +kernel
theorem dX12_told_16 : decode cX12_told 16 = .ok (.iconst 1, 1) := by decide +kernel
theorem dX12_told_17 : decode cX12_told 17 = .ok (.ireturn, 1) := by decide +kernel
theorem dX12_sign_0 : decode cX12_sign 0 = .ok (.iload_n 1, 1) := by decide +kernel
theorem dX12_sign_1 : decode cX12_sign 1 = .ok (.ifCond .ne 20, 3) := by decide +kernel
theorem dX12_sign_4 : decode cX12_sign 4 = .ok (.aload_n 0, 1) := by decide +kernel
theorem dX12_sign_5 : decode cX12_sign 5 = .ok (.getfield 26, 3) := by decide +kernel
theorem dX12_sign_8 : decode cX12_sign 8 = .ok (.iconst 0, 1) := by decide +kernel
theorem dX12_sign_9 : decode cX12_sign 9 = .ok (.iaload, 1) := by decide +kernel
theorem dX12_sign_10 : decode cX12_sign 10 = .ok (.ifCond .le 7, 3) := by decide +kernel
theorem dX12_sign_13 : decode cX12_sign 13 = .ok (.iconst 1, 1) := by decide +kernel
theorem dX12_sign_14 : decode cX12_sign 14 = .ok (.goto 37, 3) := by decide +kernel
theorem dX12_sign_17 : decode cX12_sign 17 = .ok (.iconst 0, 1) := by decide +kernel
theorem dX12_sign_18 : decode cX12_sign 18 = .ok (.goto 33, 3) := by decide +kernel
theorem dX12_sign_21 : decode cX12_sign 21 = .ok (.iload_n 1, 1) := by decide +kernel
theorem dX12_sign_22 : decode cX12_sign 22 = .ok (.iconst 1, 1) := by decide +kernel
theorem dX12_sign_23 : decode cX12_sign 23 = .ok (.if_icmp .ne 12, 3) := by decide +kernel
theorem dX12_sign_26 : decode cX12_sign 26 = .ok (.aload_n 0, 1) := by decide +kernel
theorem dX12_sign_27 : decode cX12_sign 27 = .ok (.getfield 26, 3) := by decide +kernel
theorem dX12_sign_30 : decode cX12_sign 30 = .ok (.iconst 0, 1) := by decide +kernel
theorem dX12_sign_31 : decode cX12_sign 31 = .ok (.iaload, 1) := by decide +kernel
theorem dX12_sign_32 : decode cX12_sign 32 = .ok (.goto 19, 3) := by decide +kernel
theorem dX12_sign_35 : decode cX12_sign 35 = .ok (.iload_n 1, 1) := by decide +kernel
theorem dX12_sign_36 : decode cX12_sign 36 = .ok (.iconst 2, 1) := by decide +kernel
theorem dX12_sign_37 : decode cX12_sign 37 = .ok (.if_icmp .ne 12, 3) := by decide +kernel
theorem dX12_sign_40 : decode cX12_sign 40 = .ok (.aload_n 0, 1) := by decide +kernel
theorem dX12_sign_41 : decode cX12_sign 41 = .ok (.getfield 26, 3) := by decide +kernel
theorem dX12_sign_44 : decode cX12_sign 44 = .ok (.iconst 1, 1) := by decide +kernel
theorem dX12_sign_45 : decode cX12_sign 45 = .ok (.iaload, 1) := by decide +kernel
theorem dX12_sign_46 : decode cX12_sign 46 = .ok (.goto 5, 3) := by decide +kernel
theorem dX12_sign_49 : decode cX12_sign 49 = .ok (.bipush (-2), 2) := by decide +kernel
theorem dX12_sign_51 : decode cX12_sign 51 = .ok (.ireturn, 1) := by decide +kernel
theorem dX12_limb_0 : decode cX12_limb 0 = .ok (.iload_n 1, 1) := by decide +kernel
theorem dX12_limb_1 : decode cX12_limb 1 = .ok (.i2l, 1) := by decide +kernel
theorem dX12_limb_2 : decode cX12_limb 2 = .ok (.lconst 0, 1) := by decide +kernel
theorem dX12_limb_3 : decode cX12_limb 3 = .ok (.lconst 1, 1) := by decide +kernel
theorem dX12_limb_4 : decode cX12_limb 4 = .ok (.invokestatic 109, 3) := by decide +kernel
theorem dX12_limb_7 : decode cX12_limb 7 = .ok (.ifCond .eq 7, 3) := by decide +kernel
theorem dX12_limb_10 : decode cX12_limb 10 = .ok (.iload_n 2, 1) := by decide +kernel
theorem dX12_limb_11 : decode cX12_limb 11 = .ok (.ifCond .ge 6, 3) := by decide +kernel
theorem dX12_limb_14 : decode cX12_limb 14 = .ok (.bipush (-2), 2) := by decide +kernel
theorem dX12_limb_16 : decode cX12_limb 16 = .ok (.ireturn, 1) := by decide +kernel
theorem dX12_limb_17 : decode cX12_limb 17 = .ok (.iload_n 2, 1) := by decide +kernel
theorem dX12_limb_18 : decode cX12_limb 18 = .ok (.aload_n 0, 1) := by decide +kernel
theorem dX12_limb_19 : decode cX12_limb 19 = .ok (.getfield 26, 3) := by decide +kernel
theorem dX12_limb_22 : decode cX12_limb 22 = .ok (.iload_n 1, 1) := by decide +kernel
theorem dX12_limb_23 : decode cX12_limb 23 = .ok (.iaload, 1) := by decide +kernel
theorem dX12_limb_24 : decode cX12_limb 24 = .ok (.if_icmp .ge 17, 3) := by decide +kernel
theorem dX12_limb_27 : decode cX12_limb 27 = .ok (.aload_n 0, 1) := by decide +kernel
theorem dX12_limb_28 : decode cX12_limb 28 = .ok (.getfield 23, 3) := by decide +kernel
theorem dX12_limb_31 : decode cX12_limb 31 = .ok (.bipush 60, 2) := by decide +kernel
theorem dX12_limb_33 : decode cX12_limb 33 = .ok (.iload_n 1, 1) := by decide +kernel
theorem dX12_limb_34 : decode cX12_limb 34 = .ok (.imul, 1) := by decide +kernel
theorem dX12_limb_35 : decode cX12_limb 35 = .ok (.iload_n 2, 1) := by decide +kernel
theorem dX12_limb_36 : decode cX12_limb 36 = .ok (.iadd, 1) := by decide +kernel
theorem dX12_limb_37 : decode cX12_limb 37 = .ok (.iaload, 1) := by decide +kernel
theorem dX12_limb_38 : decode cX12_limb 38 = .ok (.goto 4, 3) := by decide +kernel
theorem dX12_limb_41 : decode cX12_limb 41 = .ok (.iconst (-1), 1) := by decide +kernel
theorem dX12_limb_42 : decode cX12_limb 42 = .ok (.ireturn, 1) := by decide +kernel
theorem dX12_puts_0 : decode cX12_puts 0 = .ok (.aload_n 0, 1) := by decide +kernel
theorem dX12_puts_1 : decode cX12_puts 1 = .ok (.getfield 7, 3) := by decide +kernel
theorem dX12_puts_4 : decode cX12_puts 4 = .ok (.iload_n 1, 1) := by decide +kernel
theorem dX12_puts_5 : decode cX12_puts 5 = .ok (.iaload, 1) := by decide +kernel
theorem dX12_puts_6 : decode cX12_puts 6 = .ok (.istore_n 3, 1) := by decide +kernel
theorem dX12_puts_7 : decode cX12_puts 7 = .ok (.aload_n 0, 1) := by decide +kernel
theorem dX12_puts_8 : decode cX12_puts 8 = .ok (.getfield 7, 3) := by decide +kernel
theorem dX12_puts_11 : decode cX12_puts 11 = .ok (.iload_n 1, 1) := by decide +kernel
theorem dX12_puts_12 : decode cX12_puts 12 = .ok (.iload_n 2, 1) := by decide +kernel
theorem dX12_puts_13 : decode cX12_puts 13 = .ok (.iastore, 1) := by decide +kernel
theorem dX12_puts_14 : decode cX12_puts 14 = .ok (.iload_n 3, 1) := by decide +kernel
theorem dX12_puts_15 : decode cX12_puts 15 = .ok (.ireturn, 1) := by decide +kernel
theorem dX12_isPlace_0 : decode cX12_isPlace 0 = .ok (.iload_n 0, 1) := by decide +kernel
theorem dX12_isPlace_1 : decode cX12_isPlace 1 = .ok (.i2l, 1) := by decide +kernel
theorem dX12_isPlace_2 : decode cX12_isPlace 2 = .ok (.lconst 0, 1) := by decide +kernel
theorem dX12_isPlace_3 : decode cX12_isPlace 3 = .ok (.ldc2_w 113, 3) := by decide +kernel
theorem dX12_isPlace_6 : decode cX12_isPlace 6 = .ok (.invokestatic 109, 3) := by decide +kernel
theorem dX12_isPlace_9 : decode cX12_isPlace 9 = .ok (.ireturn, 1) := by decide +kernel
theorem dX12_isWeaver_0 : decode cX12_isWeaver 0 = .ok (.iload_n 1, 1) := by decide +kernel
theorem dX12_isWeaver_1 : decode cX12_isWeaver 1 = .ok (.i2l, 1) := by decide +kernel
theorem dX12_isWeaver_2 : decode cX12_isWeaver 2 = .ok (.lconst 0, 1) := by decide +kernel
theorem dX12_isWeaver_3 : decode cX12_isWeaver 3 = .ok (.aload_n 0, 1) := by decide +kernel
theorem dX12_isWeaver_4 : decode cX12_isWeaver 4 = .ok (.getfield 7, 3) := by decide +kernel
theorem dX12_isWeaver_7 : decode cX12_isWeaver 7 = .ok (.iconst 1, 1) := by decide +kernel
theorem dX12_isWeaver_8 : decode cX12_isWeaver 8 = .ok (.iaload, 1) := by decide +kernel
theorem dX12_isWeaver_9 : decode cX12_isWeaver 9 = .ok (.iconst 1, 1) := by decide +kernel
theorem dX12_isWeaver_10 : decode cX12_isWeaver 10 = .ok (.isub, 1) := by decide +kernel
theorem dX12_isWeaver_11 : decode cX12_isWeaver 11 = .ok (.i2l, 1) := by decide +kernel
theorem dX12_isWeaver_12 : decode cX12_isWeaver 12 = .ok (.invokestatic 109, 3) := by decide +kernel
theorem dX12_isWeaver_15 : decode cX12_isWeaver 15 = .ok (.ireturn, 1) := by decide +kernel
theorem dX12_placeOf_0 : decode cX12_placeOf 0 = .ok (.aload_n 0, 1) := by decide +kernel
theorem dX12_placeOf_1 : decode cX12_placeOf 1 = .ok (.getfield 7, 3) := by decide +kernel
theorem dX12_placeOf_4 : decode cX12_placeOf 4 = .ok (.bipush 80, 2) := by decide +kernel
theorem dX12_placeOf_6 : decode cX12_placeOf 6 = .ok (.iconst 4, 1) := by decide +kernel
theorem dX12_placeOf_7 : decode cX12_placeOf 7 = .ok (.iload_n 1, 1) := by decide +kernel
theorem dX12_placeOf_8 : decode cX12_placeOf 8 = .ok (.imul, 1) := by decide +kernel
theorem dX12_placeOf_9 : decode cX12_placeOf 9 = .ok (.iadd, 1) := by decide +kernel
theorem dX12_placeOf_10 : decode cX12_placeOf 10 = .ok (.iaload, 1) := by decide +kernel
theorem dX12_placeOf_11 : decode cX12_placeOf 11 = .ok (.ireturn, 1) := by decide +kernel
theorem dX12_faceOf_0 : decode cX12_faceOf 0 = .ok (.aload_n 0, 1) := by decide +kernel
theorem dX12_faceOf_1 : decode cX12_faceOf 1 = .ok (.getfield 7, 3) := by decide +kernel
theorem dX12_faceOf_4 : decode cX12_faceOf 4 = .ok (.bipush 80, 2) := by decide +kernel
theorem dX12_faceOf_6 : decode cX12_faceOf 6 = .ok (.iconst 4, 1) := by decide +kernel
theorem dX12_faceOf_7 : decode cX12_faceOf 7 = .ok (.iload_n 1, 1) := by decide +kernel
theorem dX12_faceOf_8 : decode cX12_faceOf 8 = .ok (.imul, 1) := by decide +kernel
theorem dX12_faceOf_9 : decode cX12_faceOf 9 = .ok (.iadd, 1) := by decide +kernel
theorem dX12_faceOf_10 : decode cX12_faceOf 10 = .ok (.iconst 1, 1) := by decide +kernel
theorem dX12_faceOf_11 : decode cX12_faceOf 11 = .ok (.iadd, 1) := by decide +kernel
theorem dX12_faceOf_12 : decode cX12_faceOf 12 = .ok (.iaload, 1) := by decide +kernel
theorem dX12_faceOf_13 : decode cX12_faceOf 13 = .ok (.ireturn, 1) := by decide +kernel
theorem dX12_stands_0 : decode cX12_stands 0 = .ok (.iconst 0, 1) := by decide +kernel
theorem dX12_stands_1 : decode cX12_stands 1 = .ok (.istore_n 2, 1) := by decide +kernel
theorem dX12_stands_2 : decode cX12_stands 2 = .ok (.iconst 0, 1) := by decide +kernel
theorem dX12_stands_3 : decode cX12_stands 3 = .ok (.istore_n 3, 1) := by decide +kernel
theorem dX12_stands_4 : decode cX12_stands 4 = .ok (.iload_n 3, 1) := by decide +kernel
theorem dX12_stands_5 : decode cX12_stands 5 = .ok (.aload_n 0, 1) := by decide +kernel
theorem dX12_stands_6 : decode cX12_stands 6 = .ok (.getfield 7, 3) := by decide +kernel
theorem dX12_stands_9 : decode cX12_stands 9 = .ok (.iconst 1, 1) := by decide +kernel
theorem dX12_stands_10 : decode cX12_stands 10 = .ok (.iaload, 1) := by decide +kernel
theorem dX12_stands_11 : decode cX12_stands 11 = .ok (.if_icmp .ge 28, 3) := by decide +kernel
theorem dX12_stands_14 : decode cX12_stands 14 = .ok (.iload_n 2, 1) := by decide +kernel
theorem dX12_stands_15 : decode cX12_stands 15 = .ok (.ifCond .ne 12, 3) := by decide +kernel
theorem dX12_stands_18 : decode cX12_stands 18 = .ok (.aload_n 0, 1) := by decide +kernel
theorem dX12_stands_19 : decode cX12_stands 19 = .ok (.iload_n 3, 1) := by decide +kernel
theorem dX12_stands_20 : decode cX12_stands 20 = .ok (.invokevirtual 115, 3) := by decide +kernel
theorem dX12_stands_23 : decode cX12_stands 23 = .ok (.iload_n 1, 1) := by decide +kernel
theorem dX12_stands_24 : decode cX12_stands 24 = .ok (.if_icmp .ne 7, 3) := by decide +kernel
theorem dX12_stands_27 : decode cX12_stands 27 = .ok (.iconst 1, 1) := by decide +kernel
theorem dX12_stands_28 : decode cX12_stands 28 = .ok (.goto 4, 3) := by decide +kernel
theorem dX12_stands_31 : decode cX12_stands 31 = .ok (.iconst 0, 1) := by decide +kernel
theorem dX12_stands_32 : decode cX12_stands 32 = .ok (.istore_n 2, 1) := by decide +kernel
theorem dX12_stands_33 : decode cX12_stands 33 = .ok (.iinc 3 1, 3) := by decide +kernel
theorem dX12_stands_36 : decode cX12_stands 36 = .ok (.goto (-32), 3) := by decide +kernel
theorem dX12_stands_39 : decode cX12_stands 39 = .ok (.iload_n 2, 1) := by decide +kernel
theorem dX12_stands_40 : decode cX12_stands 40 = .ok (.ireturn, 1) := by decide +kernel
theorem dX12_pillar_0 : decode cX12_pillar 0 = .ok (.iload_n 1, 1) := by decide +kernel
theorem dX12_pillar_1 : decode cX12_pillar 1 = .ok (.invokestatic 119, 3) := by decide +kernel
theorem dX12_pillar_4 : decode cX12_pillar 4 = .ok (.ifCond .eq 11, 3) := by decide +kernel
theorem dX12_pillar_7 : decode cX12_pillar 7 = .ok (.aload_n 0, 1) := by decide +kernel
theorem dX12_pillar_8 : decode cX12_pillar 8 = .ok (.iload_n 1, 1) := by decide +kernel
theorem dX12_pillar_9 : decode cX12_pillar 9 = .ok (.invokevirtual 122, 3) := by decide +kernel
theorem dX12_pillar_12 : decode cX12_pillar 12 = .ok (.ifCond .eq 6, 3) := by decide +kernel
theorem dX12_pillar_15 : decode cX12_pillar 15 = .ok (.bipush (-2), 2) := by decide +kernel
theorem dX12_pillar_17 : decode cX12_pillar 17 = .ok (.ireturn, 1) := by decide +kernel
theorem dX12_pillar_18 : decode cX12_pillar 18 = .ok (.aload_n 0, 1) := by decide +kernel
theorem dX12_pillar_19 : decode cX12_pillar 19 = .ok (.getfield 7, 3) := by decide +kernel
theorem dX12_pillar_22 : decode cX12_pillar 22 = .ok (.bipush 10, 2) := by decide +kernel
theorem dX12_pillar_24 : decode cX12_pillar 24 = .ok (.iload_n 1, 1) := by decide +kernel
theorem dX12_pillar_25 : decode cX12_pillar 25 = .ok (.iadd, 1) := by decide +kernel
theorem dX12_pillar_26 : decode cX12_pillar 26 = .ok (.iaload, 1) := by decide +kernel
theorem dX12_pillar_27 : decode cX12_pillar 27 = .ok (.iconst 1, 1) := by decide +kernel
theorem dX12_pillar_28 : decode cX12_pillar 28 = .ok (.if_icmp .ne 6, 3) := by decide +kernel
theorem dX12_pillar_31 : decode cX12_pillar 31 = .ok (.bipush (-3), 2) := by decide +kernel
theorem dX12_pillar_33 : decode cX12_pillar 33 = .ok (.ireturn, 1) := by decide +kernel
theorem dX12_pillar_34 : decode cX12_pillar 34 = .ok (.aload_n 0, 1) := by decide +kernel
theorem dX12_pillar_35 : decode cX12_pillar 35 = .ok (.getfield 7, 3) := by decide +kernel
theorem dX12_pillar_38 : decode cX12_pillar 38 = .ok (.bipush 10, 2) := by decide +kernel
theorem dX12_pillar_40 : decode cX12_pillar 40 = .ok (.iload_n 1, 1) := by decide +kernel
theorem dX12_pillar_41 : decode cX12_pillar 41 = .ok (.iadd, 1) := by decide +kernel
theorem dX12_pillar_42 : decode cX12_pillar 42 = .ok (.iconst 1, 1) := by decide +kernel
theorem dX12_pillar_43 : decode cX12_pillar 43 = .ok (.iastore, 1) := by decide +kernel
theorem dX12_pillar_44 : decode cX12_pillar 44 = .ok (.aload_n 0, 1) := by decide +kernel
theorem dX12_pillar_45 : decode cX12_pillar 45 = .ok (.getfield 7, 3) := by decide +kernel
theorem dX12_pillar_48 : decode cX12_pillar 48 = .ok (.iconst 0, 1) := by decide +kernel
theorem dX12_pillar_49 : decode cX12_pillar 49 = .ok (.dup2, 1) := by decide +kernel
theorem dX12_pillar_50 : decode cX12_pillar 50 = .ok (.iaload, 1) := by decide +kernel
theorem dX12_pillar_51 : decode cX12_pillar 51 = .ok (.iconst 1, 1) := by decide +kernel
theorem dX12_pillar_52 : decode cX12_pillar 52 = .ok (.iadd, 1) := by decide +kernel
theorem dX12_pillar_53 : decode cX12_pillar 53 = .ok (.iastore, 1) := by decide +kernel
theorem dX12_pillar_54 : decode cX12_pillar 54 = .ok (.iconst 1, 1) := by decide +kernel
theorem dX12_pillar_55 : decode cX12_pillar 55 = .ok (.ireturn, 1) := by decide +kernel
theorem dX12_weaver_0 : decode cX12_weaver 0 = .ok (.iload_n 1, 1) := by decide +kernel
theorem dX12_weaver_1 : decode cX12_weaver 1 = .ok (.invokestatic 119, 3) := by decide +kernel
theorem dX12_weaver_4 : decode cX12_weaver 4 = .ok (.ifCond .eq 36, 3) := by decide +kernel
theorem dX12_weaver_7 : decode cX12_weaver 7 = .ok (.aload_n 0, 1) := by decide +kernel
theorem dX12_weaver_8 : decode cX12_weaver 8 = .ok (.iload_n 1, 1) := by decide +kernel
theorem dX12_weaver_9 : decode cX12_weaver 9 = .ok (.invokevirtual 122, 3) := by decide +kernel
theorem dX12_weaver_12 : decode cX12_weaver 12 = .ok (.ifCond .ne 28, 3) := by decide +kernel
theorem dX12_weaver_15 : decode cX12_weaver 15 = .ok (.aload_n 0, 1) := by decide +kernel
theorem dX12_weaver_16 : decode cX12_weaver 16 = .ok (.getfield 7, 3) := by decide +kernel
theorem dX12_weaver_19 : decode cX12_weaver 19 = .ok (.bipush 10, 2) := by decide +kernel
theorem dX12_weaver_21 : decode cX12_weaver 21 = .ok (.iload_n 1, 1) := by decide +kernel
theorem dX12_weaver_22 : decode cX12_weaver 22 = .ok (.iadd, 1) := by decide +kernel
theorem dX12_weaver_23 : decode cX12_weaver 23 = .ok (.iaload, 1) := by decide +kernel
theorem dX12_weaver_24 : decode cX12_weaver 24 = .ok (.iconst 1, 1) := by decide +kernel
theorem dX12_weaver_25 : decode cX12_weaver 25 = .ok (.if_icmp .eq 15, 3) := by decide +kernel
theorem dX12_weaver_28 : decode cX12_weaver 28 = .ok (.iload_n 2, 1) := by decide +kernel
theorem dX12_weaver_29 : decode cX12_weaver 29 = .ok (.i2l, 1) := by decide +kernel
theorem dX12_weaver_30 : decode cX12_weaver 30 = .ok (.lconst 0, 1) := by decide +kernel
theorem dX12_weaver_31 : decode cX12_weaver 31 = .ok (.ldc2_w 125, 3) := by decide +kernel
theorem dX12_weaver_34 : decode cX12_weaver 34 = .ok (.invokestatic 109, 3) := by decide +kernel
theorem dX12_weaver_37 : decode cX12_weaver 37 = .ok (.ifCond .ne 6, 3) := by decide +kernel
theorem dX12_weaver_40 : decode cX12_weaver 40 = .ok (.bipush (-2), 2) := by decide +kernel
theorem dX12_weaver_42 : decode cX12_weaver 42 = .ok (.ireturn, 1) := by decide +kernel
theorem dX12_weaver_43 : decode cX12_weaver 43 = .ok (.aload_n 0, 1) := by decide +kernel
theorem dX12_weaver_44 : decode cX12_weaver 44 = .ok (.getfield 7, 3) := by decide +kernel
theorem dX12_weaver_47 : decode cX12_weaver 47 = .ok (.iconst 1, 1) := by decide +kernel
theorem dX12_weaver_48 : decode cX12_weaver 48 = .ok (.iaload, 1) := by decide +kernel
theorem dX12_weaver_49 : decode cX12_weaver 49 = .ok (.bipush 8, 2) := by decide +kernel
theorem dX12_weaver_51 : decode cX12_weaver 51 = .ok (.if_icmp .ne 6, 3) := by decide +kernel
theorem dX12_weaver_54 : decode cX12_weaver 54 = .ok (.bipush (-4), 2) := by decide +kernel
theorem dX12_weaver_56 : decode cX12_weaver 56 = .ok (.ireturn, 1) := by decide +kernel
theorem dX12_weaver_57 : decode cX12_weaver 57 = .ok (.bipush 80, 2) := by decide +kernel
theorem dX12_weaver_59 : decode cX12_weaver 59 = .ok (.iconst 4, 1) := by decide +kernel
theorem dX12_weaver_60 : decode cX12_weaver 60 = .ok (.aload_n 0, 1) := by decide +kernel
theorem dX12_weaver_61 : decode cX12_weaver 61 = .ok (.getfield 7, 3) := by decide +kernel
theorem dX12_weaver_64 : decode cX12_weaver 64 = .ok (.iconst 1, 1) := by decide +kernel
theorem dX12_weaver_65 : decode cX12_weaver 65 = .ok (.iaload, 1) := by decide +kernel
theorem dX12_weaver_66 : decode cX12_weaver 66 = .ok (.imul, 1) := by decide +kernel
theorem dX12_weaver_67 : decode cX12_weaver 67 = .ok (.iadd, 1) := by decide +kernel
theorem dX12_weaver_68 : decode cX12_weaver 68 = .ok (.istore_n 3, 1) := by decide +kernel
theorem dX12_weaver_69 : decode cX12_weaver 69 = .ok (.aload_n 0, 1) := by decide +kernel
theorem dX12_weaver_70 : decode cX12_weaver 70 = .ok (.getfield 7, 3) := by decide +kernel
theorem dX12_weaver_73 : decode cX12_weaver 73 = .ok (.iload_n 3, 1) := by decide +kernel
theorem dX12_weaver_74 : decode cX12_weaver 74 = .ok (.iload_n 1, 1) := by decide +kernel
theorem dX12_weaver_75 : decode cX12_weaver 75 = .ok (.iastore, 1) := by decide +kernel
theorem dX12_weaver_76 : decode cX12_weaver 76 = .ok (.aload_n 0, 1) := by decide +kernel
theorem dX12_weaver_77 : decode cX12_weaver 77 = .ok (.getfield 7, 3) := by decide +kernel
theorem dX12_weaver_80 : decode cX12_weaver 80 = .ok (.iload_n 3, 1) := by decide +kernel
theorem dX12_weaver_81 : decode cX12_weaver 81 = .ok (.iconst 1, 1) := by decide +kernel
theorem dX12_weaver_82 : decode cX12_weaver 82 = .ok (.iadd, 1) := by decide +kernel
theorem dX12_weaver_83 : decode cX12_weaver 83 = .ok (.iload_n 2, 1) := by decide +kernel
theorem dX12_weaver_84 : decode cX12_weaver 84 = .ok (.iastore, 1) := by decide +kernel
theorem dX12_weaver_85 : decode cX12_weaver 85 = .ok (.aload_n 0, 1) := by decide +kernel
theorem dX12_weaver_86 : decode cX12_weaver 86 = .ok (.getfield 7, 3) := by decide +kernel
theorem dX12_weaver_89 : decode cX12_weaver 89 = .ok (.iload_n 3, 1) := by decide +kernel
theorem dX12_weaver_90 : decode cX12_weaver 90 = .ok (.iconst 2, 1) := by decide +kernel
theorem dX12_weaver_91 : decode cX12_weaver 91 = .ok (.iadd, 1) := by decide +kernel
theorem dX12_weaver_92 : decode cX12_weaver 92 = .ok (.sipush 4095, 3) := by decide +kernel
theorem dX12_weaver_95 : decode cX12_weaver 95 = .ok (.iastore, 1) := by decide +kernel
theorem dX12_weaver_96 : decode cX12_weaver 96 = .ok (.aload_n 0, 1) := by decide +kernel
theorem dX12_weaver_97 : decode cX12_weaver 97 = .ok (.getfield 7, 3) := by decide +kernel
theorem dX12_weaver_100 : decode cX12_weaver 100 = .ok (.iload_n 3, 1) := by decide +kernel
theorem dX12_weaver_101 : decode cX12_weaver 101 = .ok (.iconst 3, 1) := by decide +kernel
theorem dX12_weaver_102 : decode cX12_weaver 102 = .ok (.iadd, 1) := by decide +kernel
theorem dX12_weaver_103 : decode cX12_weaver 103 = .ok (.sipush 4095, 3) := by decide +kernel
theorem dX12_weaver_106 : decode cX12_weaver 106 = .ok (.iastore, 1) := by decide +kernel
theorem dX12_weaver_107 : decode cX12_weaver 107 = .ok (.aload_n 0, 1) := by decide +kernel
theorem dX12_weaver_108 : decode cX12_weaver 108 = .ok (.getfield 7, 3) := by decide +kernel
theorem dX12_weaver_111 : decode cX12_weaver 111 = .ok (.iconst 1, 1) := by decide +kernel
theorem dX12_weaver_112 : decode cX12_weaver 112 = .ok (.dup2, 1) := by decide +kernel
theorem dX12_weaver_113 : decode cX12_weaver 113 = .ok (.iaload, 1) := by decide +kernel
theorem dX12_weaver_114 : decode cX12_weaver 114 = .ok (.iconst 1, 1) := by decide +kernel
theorem dX12_weaver_115 : decode cX12_weaver 115 = .ok (.iadd, 1) := by decide +kernel
theorem dX12_weaver_116 : decode cX12_weaver 116 = .ok (.iastore, 1) := by decide +kernel
theorem dX12_weaver_117 : decode cX12_weaver 117 = .ok (.aload_n 0, 1) := by decide +kernel
theorem dX12_weaver_118 : decode cX12_weaver 118 = .ok (.getfield 7, 3) := by decide +kernel
theorem dX12_weaver_121 : decode cX12_weaver 121 = .ok (.iconst 1, 1) := by decide +kernel
theorem dX12_weaver_122 : decode cX12_weaver 122 = .ok (.iaload, 1) := by decide +kernel
theorem dX12_weaver_123 : decode cX12_weaver 123 = .ok (.iconst 1, 1) := by decide +kernel
theorem dX12_weaver_124 : decode cX12_weaver 124 = .ok (.isub, 1) := by decide +kernel
theorem dX12_weaver_125 : decode cX12_weaver 125 = .ok (.ireturn, 1) := by decide +kernel
theorem dX12_face_0 : decode cX12_face 0 = .ok (.aload_n 0, 1) := by decide +kernel
theorem dX12_face_1 : decode cX12_face 1 = .ok (.iload_n 1, 1) := by decide +kernel
theorem dX12_face_2 : decode cX12_face 2 = .ok (.invokevirtual 127, 3) := by decide +kernel
theorem dX12_face_5 : decode cX12_face 5 = .ok (.ifCond .eq 31, 3) := by decide +kernel
theorem dX12_face_8 : decode cX12_face 8 = .ok (.iload_n 2, 1) := by decide +kernel
theorem dX12_face_9 : decode cX12_face 9 = .ok (.i2l, 1) := by decide +kernel
theorem dX12_face_10 : decode cX12_face 10 = .ok (.lconst 0, 1) := by decide +kernel
theorem dX12_face_11 : decode cX12_face 11 = .ok (.ldc2_w 125, 3) := by decide +kernel
theorem dX12_face_14 : decode cX12_face 14 = .ok (.invokestatic 109, 3) := by decide +kernel
theorem dX12_face_17 : decode cX12_face 17 = .ok (.ifCond .eq 19, 3) := by decide +kernel
theorem dX12_face_20 : decode cX12_face 20 = .ok (.aload_n 0, 1) := by decide +kernel
theorem dX12_face_21 : decode cX12_face 21 = .ok (.bipush 80, 2) := by decide +kernel
theorem dX12_face_23 : decode cX12_face 23 = .ok (.iconst 4, 1) := by decide +kernel
theorem dX12_face_24 : decode cX12_face 24 = .ok (.iload_n 1, 1) := by decide +kernel
theorem dX12_face_25 : decode cX12_face 25 = .ok (.imul, 1) := by decide +kernel
theorem dX12_face_26 : decode cX12_face 26 = .ok (.iadd, 1) := by decide +kernel
theorem dX12_face_27 : decode cX12_face 27 = .ok (.iconst 1, 1) := by decide +kernel
theorem dX12_face_28 : decode cX12_face 28 = .ok (.iadd, 1) := by decide +kernel
theorem dX12_face_29 : decode cX12_face 29 = .ok (.iload_n 2, 1) := by decide +kernel
theorem dX12_face_30 : decode cX12_face 30 = .ok (.invokevirtual 130, 3) := by decide +kernel
theorem dX12_face_33 : decode cX12_face 33 = .ok (.goto 5, 3) := by decide +kernel
theorem dX12_face_36 : decode cX12_face 36 = .ok (.bipush (-2), 2) := by decide +kernel
theorem dX12_face_38 : decode cX12_face 38 = .ok (.ireturn, 1) := by decide +kernel
theorem dX12_free_0 : decode cX12_free 0 = .ok (.aload_n 0, 1) := by decide +kernel
theorem dX12_free_1 : decode cX12_free 1 = .ok (.iload_n 1, 1) := by decide +kernel
theorem dX12_free_2 : decode cX12_free 2 = .ok (.invokevirtual 127, 3) := by decide +kernel
theorem dX12_free_5 : decode cX12_free 5 = .ok (.ifCond .eq 38, 3) := by decide +kernel
theorem dX12_free_8 : decode cX12_free 8 = .ok (.iload_n 2, 1) := by decide +kernel
theorem dX12_free_9 : decode cX12_free 9 = .ok (.i2l, 1) := by decide +kernel
theorem dX12_free_10 : decode cX12_free 10 = .ok (.lconst 0, 1) := by decide +kernel
theorem dX12_free_11 : decode cX12_free 11 = .ok (.lconst 1, 1) := by decide +kernel
theorem dX12_free_12 : decode cX12_free 12 = .ok (.invokestatic 109, 3) := by decide +kernel
theorem dX12_free_15 : decode cX12_free 15 = .ok (.ifCond .eq 28, 3) := by decide +kernel
theorem dX12_free_18 : decode cX12_free 18 = .ok (.iload 4, 2) := by decide +kernel
theorem dX12_free_20 : decode cX12_free 20 = .ok (.i2l, 1) := by decide +kernel
theorem dX12_free_21 : decode cX12_free 21 = .ok (.lconst 0, 1) := by decide +kernel
theorem dX12_free_22 : decode cX12_free 22 = .ok (.ldc2_w 133, 3) := by decide +kernel
theorem dX12_free_25 : decode cX12_free 25 = .ok (.invokestatic 109, 3) := by decide +kernel
theorem dX12_free_28 : decode cX12_free 28 = .ok (.ifCond .eq 15, 3) := by decide +kernel
theorem dX12_free_31 : decode cX12_free 31 = .ok (.iload_n 3, 1) := by decide +kernel
theorem dX12_free_32 : decode cX12_free 32 = .ok (.i2l, 1) := by decide +kernel
theorem dX12_free_33 : decode cX12_free 33 = .ok (.lconst 0, 1) := by decide +kernel
theorem dX12_free_34 : decode cX12_free 34 = .ok (.iload 4, 2) := by decide +kernel
theorem dX12_free_36 : decode cX12_free 36 = .ok (.i2l, 1) := by decide +kernel
theorem dX12_free_37 : decode cX12_free 37 = .ok (.invokestatic 109, 3) := by decide +kernel
theorem dX12_free_40 : decode cX12_free 40 = .ok (.ifCond .ne 6, 3) := by decide +kernel
theorem dX12_free_43 : decode cX12_free 43 = .ok (.bipush (-2), 2) := by decide +kernel
theorem dX12_free_45 : decode cX12_free 45 = .ok (.ireturn, 1) := by decide +kernel
theorem dX12_free_46 : decode cX12_free 46 = .ok (.iconst 0, 1) := by decide +kernel
theorem dX12_free_47 : decode cX12_free 47 = .ok (.istore 5, 2) := by decide +kernel
theorem dX12_free_49 : decode cX12_free 49 = .ok (.iload_n 3, 1) := by decide +kernel
theorem dX12_free_50 : decode cX12_free 50 = .ok (.istore 6, 2) := by decide +kernel
theorem dX12_free_52 : decode cX12_free 52 = .ok (.iload 6, 2) := by decide +kernel
theorem dX12_free_54 : decode cX12_free 54 = .ok (.iload 4, 2) := by decide +kernel
theorem dX12_free_56 : decode cX12_free 56 = .ok (.if_icmp .gt 18, 3) := by decide +kernel
theorem dX12_free_59 : decode cX12_free 59 = .ok (.iload 5, 2) := by decide +kernel
theorem dX12_free_61 : decode cX12_free 61 = .ok (.iconst 1, 1) := by decide +kernel
theorem dX12_free_62 : decode cX12_free 62 = .ok (.iload 6, 2) := by decide +kernel
theorem dX12_free_64 : decode cX12_free 64 = .ok (.ishl, 1) := by decide +kernel
theorem dX12_free_65 : decode cX12_free 65 = .ok (.ior, 1) := by decide +kernel
theorem dX12_free_66 : decode cX12_free 66 = .ok (.istore 5, 2) := by decide +kernel
theorem dX12_free_68 : decode cX12_free 68 = .ok (.iinc 6 1, 3) := by decide +kernel
theorem dX12_free_71 : decode cX12_free 71 = .ok (.goto (-19), 3) := by decide +kernel
theorem dX12_free_74 : decode cX12_free 74 = .ok (.aload_n 0, 1) := by decide +kernel
theorem dX12_free_75 : decode cX12_free 75 = .ok (.getfield 7, 3) := by decide +kernel
theorem dX12_free_78 : decode cX12_free 78 = .ok (.bipush 80, 2) := by decide +kernel
theorem dX12_free_80 : decode cX12_free 80 = .ok (.iconst 4, 1) := by decide +kernel
theorem dX12_free_81 : decode cX12_free 81 = .ok (.iload_n 1, 1) := by decide +kernel
theorem dX12_free_82 : decode cX12_free 82 = .ok (.imul, 1) := by decide +kernel
theorem dX12_free_83 : decode cX12_free 83 = .ok (.iadd, 1) := by decide +kernel
theorem dX12_free_84 : decode cX12_free 84 = .ok (.iconst 2, 1) := by decide +kernel
theorem dX12_free_85 : decode cX12_free 85 = .ok (.iadd, 1) := by decide +kernel
theorem dX12_free_86 : decode cX12_free 86 = .ok (.iload_n 2, 1) := by decide +kernel
theorem dX12_free_87 : decode cX12_free 87 = .ok (.iadd, 1) := by decide +kernel
theorem dX12_free_88 : decode cX12_free 88 = .ok (.iload 5, 2) := by decide +kernel
theorem dX12_free_90 : decode cX12_free 90 = .ok (.iastore, 1) := by decide +kernel
theorem dX12_free_91 : decode cX12_free 91 = .ok (.iconst 1, 1) := by decide +kernel
theorem dX12_free_92 : decode cX12_free 92 = .ok (.ireturn, 1) := by decide +kernel
theorem dX12_far_0 : decode cX12_far 0 = .ok (.iload_n 1, 1) := by decide +kernel
theorem dX12_far_1 : decode cX12_far 1 = .ok (.i2l, 1) := by decide +kernel
theorem dX12_far_2 : decode cX12_far 2 = .ok (.lconst 0, 1) := by decide +kernel
theorem dX12_far_3 : decode cX12_far 3 = .ok (.lconst 1, 1) := by decide +kernel
theorem dX12_far_4 : decode cX12_far 4 = .ok (.invokestatic 109, 3) := by decide +kernel
theorem dX12_far_7 : decode cX12_far 7 = .ok (.ifCond .eq 27, 3) := by decide +kernel
theorem dX12_far_10 : decode cX12_far 10 = .ok (.iload_n 2, 1) := by decide +kernel
theorem dX12_far_11 : decode cX12_far 11 = .ok (.i2l, 1) := by decide +kernel
theorem dX12_far_12 : decode cX12_far 12 = .ok (.lconst 1, 1) := by decide +kernel
theorem dX12_far_13 : decode cX12_far 13 = .ok (.ldc2_w 135, 3) := by decide +kernel
theorem dX12_far_16 : decode cX12_far 16 = .ok (.invokestatic 109, 3) := by decide +kernel
theorem dX12_far_19 : decode cX12_far 19 = .ok (.ifCond .eq 15, 3) := by decide +kernel
theorem dX12_far_22 : decode cX12_far 22 = .ok (.aload_n 0, 1) := by decide +kernel
theorem dX12_far_23 : decode cX12_far 23 = .ok (.bipush 6, 2) := by decide +kernel
theorem dX12_far_25 : decode cX12_far 25 = .ok (.iload_n 1, 1) := by decide +kernel
theorem dX12_far_26 : decode cX12_far 26 = .ok (.iadd, 1) := by decide +kernel
theorem dX12_far_27 : decode cX12_far 27 = .ok (.iload_n 2, 1) := by decide +kernel
theorem dX12_far_28 : decode cX12_far 28 = .ok (.invokevirtual 130, 3) := by decide +kernel
theorem dX12_far_31 : decode cX12_far 31 = .ok (.goto 5, 3) := by decide +kernel
theorem dX12_far_34 : decode cX12_far 34 = .ok (.bipush (-2), 2) := by decide +kernel
theorem dX12_far_36 : decode cX12_far 36 = .ok (.ireturn, 1) := by decide +kernel
theorem dX12_toward_0 : decode cX12_toward 0 = .ok (.iload_n 1, 1) := by decide +kernel
theorem dX12_toward_1 : decode cX12_toward 1 = .ok (.bipush 8, 2) := by decide +kernel
theorem dX12_toward_3 : decode cX12_toward 3 = .ok (.idiv, 1) := by decide +kernel
theorem dX12_toward_4 : decode cX12_toward 4 = .ok (.iload_n 0, 1) := by decide +kernel
theorem dX12_toward_5 : decode cX12_toward 5 = .ok (.bipush 8, 2) := by decide +kernel
theorem dX12_toward_7 : decode cX12_toward 7 = .ok (.idiv, 1) := by decide +kernel
theorem dX12_toward_8 : decode cX12_toward 8 = .ok (.isub, 1) := by decide +kernel
theorem dX12_toward_9 : decode cX12_toward 9 = .ok (.istore_n 3, 1) := by decide +kernel
theorem dX12_toward_10 : decode cX12_toward 10 = .ok (.iload_n 1, 1) := by decide +kernel
theorem dX12_toward_11 : decode cX12_toward 11 = .ok (.bipush 8, 2) := by decide +kernel
theorem dX12_toward_13 : decode cX12_toward 13 = .ok (.irem, 1) := by decide +kernel
theorem dX12_toward_14 : decode cX12_toward 14 = .ok (.iload_n 0, 1) := by decide +kernel
theorem dX12_toward_15 : decode cX12_toward 15 = .ok (.bipush 8, 2) := by decide +kernel
theorem dX12_toward_17 : decode cX12_toward 17 = .ok (.irem, 1) := by decide +kernel
theorem dX12_toward_18 : decode cX12_toward 18 = .ok (.isub, 1) := by decide +kernel
theorem dX12_toward_19 : decode cX12_toward 19 = .ok (.istore 4, 2) := by decide +kernel
theorem dX12_toward_21 : decode cX12_toward 21 = .ok (.iload_n 2, 1) := by decide +kernel
theorem dX12_toward_22 : decode cX12_toward 22 = .ok (.ifCond .ne 8, 3) := by decide +kernel
theorem dX12_toward_25 : decode cX12_toward 25 = .ok (.iload_n 3, 1) := by decide +kernel
theorem dX12_toward_26 : decode cX12_toward 26 = .ok (.ineg, 1) := by decide +kernel
theorem dX12_toward_27 : decode cX12_toward 27 = .ok (.goto 25, 3) := by decide +kernel
theorem dX12_toward_30 : decode cX12_toward 30 = .ok (.iload_n 2, 1) := by decide +kernel
theorem dX12_toward_31 : decode cX12_toward 31 = .ok (.iconst 1, 1) := by decide +kernel
theorem dX12_toward_32 : decode cX12_toward 32 = .ok (.if_icmp .ne 8, 3) := by decide +kernel
theorem dX12_toward_35 : decode cX12_toward 35 = .ok (.iload 4, 2) := by decide +kernel
theorem dX12_toward_37 : decode cX12_toward 37 = .ok (.goto 15, 3) := by decide +kernel
theorem dX12_toward_40 : decode cX12_toward 40 = .ok (.iload_n 2, 1) := by decide +kernel
theorem dX12_toward_41 : decode cX12_toward 41 = .ok (.iconst 2, 1) := by decide +kernel
theorem dX12_toward_42 : decode cX12_toward 42 = .ok (.if_icmp .ne 7, 3) := by decide +kernel
theorem dX12_toward_45 : decode cX12_toward 45 = .ok (.iload_n 3, 1) := by decide +kernel
theorem dX12_toward_46 : decode cX12_toward 46 = .ok (.goto 6, 3) := by decide +kernel
theorem dX12_toward_49 : decode cX12_toward 49 = .ok (.iload 4, 2) := by decide +kernel
theorem dX12_toward_51 : decode cX12_toward 51 = .ok (.ineg, 1) := by decide +kernel
theorem dX12_toward_52 : decode cX12_toward 52 = .ok (.ireturn, 1) := by decide +kernel
theorem dX12_square_0 : decode cX12_square 0 = .ok (.iload_n 0, 1) := by decide +kernel
theorem dX12_square_1 : decode cX12_square 1 = .ok (.bipush 8, 2) := by decide +kernel
theorem dX12_square_3 : decode cX12_square 3 = .ok (.idiv, 1) := by decide +kernel
theorem dX12_square_4 : decode cX12_square 4 = .ok (.iload_n 1, 1) := by decide +kernel
theorem dX12_square_5 : decode cX12_square 5 = .ok (.bipush 8, 2) := by decide +kernel
theorem dX12_square_7 : decode cX12_square 7 = .ok (.idiv, 1) := by decide +kernel
theorem dX12_square_8 : decode cX12_square 8 = .ok (.isub, 1) := by decide +kernel
theorem dX12_square_9 : decode cX12_square 9 = .ok (.istore_n 2, 1) := by decide +kernel
theorem dX12_square_10 : decode cX12_square 10 = .ok (.iload_n 0, 1) := by decide +kernel
theorem dX12_square_11 : decode cX12_square 11 = .ok (.bipush 8, 2) := by decide +kernel
theorem dX12_square_13 : decode cX12_square 13 = .ok (.irem, 1) := by decide +kernel
theorem dX12_square_14 : decode cX12_square 14 = .ok (.iload_n 1, 1) := by decide +kernel
theorem dX12_square_15 : decode cX12_square 15 = .ok (.bipush 8, 2) := by decide +kernel
theorem dX12_square_17 : decode cX12_square 17 = .ok (.irem, 1) := by decide +kernel
theorem dX12_square_18 : decode cX12_square 18 = .ok (.isub, 1) := by decide +kernel
theorem dX12_square_19 : decode cX12_square 19 = .ok (.istore_n 3, 1) := by decide +kernel
theorem dX12_square_20 : decode cX12_square 20 = .ok (.iload_n 2, 1) := by decide +kernel
theorem dX12_square_21 : decode cX12_square 21 = .ok (.iload_n 2, 1) := by decide +kernel
theorem dX12_square_22 : decode cX12_square 22 = .ok (.imul, 1) := by decide +kernel
theorem dX12_square_23 : decode cX12_square 23 = .ok (.iload_n 3, 1) := by decide +kernel
theorem dX12_square_24 : decode cX12_square 24 = .ok (.iload_n 3, 1) := by decide +kernel
theorem dX12_square_25 : decode cX12_square 25 = .ok (.imul, 1) := by decide +kernel
theorem dX12_square_26 : decode cX12_square 26 = .ok (.iadd, 1) := by decide +kernel
theorem dX12_square_27 : decode cX12_square 27 = .ok (.ireturn, 1) := by decide +kernel
theorem dX12_isClear_0 : decode cX12_isClear 0 = .ok (.iconst 1, 1) := by decide +kernel
theorem dX12_isClear_1 : decode cX12_isClear 1 = .ok (.istore_n 3, 1) := by decide +kernel
theorem dX12_isClear_2 : decode cX12_isClear 2 = .ok (.iload_n 1, 1) := by decide +kernel
theorem dX12_isClear_3 : decode cX12_isClear 3 = .ok (.iload_n 2, 1) := by decide +kernel
theorem dX12_isClear_4 : decode cX12_isClear 4 = .ok (.invokestatic 137, 3) := by decide +kernel
theorem dX12_isClear_7 : decode cX12_isClear 7 = .ok (.istore 4, 2) := by decide +kernel
theorem dX12_isClear_9 : decode cX12_isClear 9 = .ok (.iconst 0, 1) := by decide +kernel
theorem dX12_isClear_10 : decode cX12_isClear 10 = .ok (.istore 5, 2) := by decide +kernel
theorem dX12_isClear_12 : decode cX12_isClear 12 = .ok (.iload 5, 2) := by decide +kernel
theorem dX12_isClear_14 : decode cX12_isClear 14 = .ok (.bipush 64, 2) := by decide +kernel
theorem dX12_isClear_16 : decode cX12_isClear 16 = .ok (.if_icmp .ge 129, 3) := by decide +kernel
theorem dX12_isClear_19 : decode cX12_isClear 19 = .ok (.iload_n 3, 1) := by decide +kernel
theorem dX12_isClear_20 : decode cX12_isClear 20 = .ok (.ifCond .eq 125, 3) := by decide +kernel
theorem dX12_isClear_23 : decode cX12_isClear 23 = .ok (.aload_n 0, 1) := by decide +kernel
theorem dX12_isClear_24 : decode cX12_isClear 24 = .ok (.getfield 7, 3) := by decide +kernel
theorem dX12_isClear_27 : decode cX12_isClear 27 = .ok (.bipush 10, 2) := by decide +kernel
theorem dX12_isClear_29 : decode cX12_isClear 29 = .ok (.iload 5, 2) := by decide +kernel
theorem dX12_isClear_31 : decode cX12_isClear 31 = .ok (.iadd, 1) := by decide +kernel
theorem dX12_isClear_32 : decode cX12_isClear 32 = .ok (.iaload, 1) := by decide +kernel
theorem dX12_isClear_33 : decode cX12_isClear 33 = .ok (.iconst 1, 1) := by decide +kernel
theorem dX12_isClear_34 : decode cX12_isClear 34 = .ok (.if_icmp .ne 105, 3) := by decide +kernel
theorem dX12_isClear_37 : decode cX12_isClear 37 = .ok (.iload_n 2, 1) := by decide +kernel
theorem dX12_isClear_38 : decode cX12_isClear 38 = .ok (.bipush 8, 2) := by decide +kernel
theorem dX12_isClear_40 : decode cX12_isClear 40 = .ok (.idiv, 1) := by decide +kernel
theorem dX12_isClear_41 : decode cX12_isClear 41 = .ok (.iload_n 1, 1) := by decide +kernel
theorem dX12_isClear_42 : decode cX12_isClear 42 = .ok (.bipush 8, 2) := by decide +kernel
theorem dX12_isClear_44 : decode cX12_isClear 44 = .ok (.idiv, 1) := by decide +kernel
theorem dX12_isClear_45 : decode cX12_isClear 45 = .ok (.isub, 1) := by decide +kernel
theorem dX12_isClear_46 : decode cX12_isClear 46 = .ok (.istore 6, 2) := by decide +kernel
theorem dX12_isClear_48 : decode cX12_isClear 48 = .ok (.iload_n 2, 1) := by decide +kernel
theorem dX12_isClear_49 : decode cX12_isClear 49 = .ok (.bipush 8, 2) := by decide +kernel
theorem dX12_isClear_51 : decode cX12_isClear 51 = .ok (.irem, 1) := by decide +kernel
theorem dX12_isClear_52 : decode cX12_isClear 52 = .ok (.iload_n 1, 1) := by decide +kernel
theorem dX12_isClear_53 : decode cX12_isClear 53 = .ok (.bipush 8, 2) := by decide +kernel
theorem dX12_isClear_55 : decode cX12_isClear 55 = .ok (.irem, 1) := by decide +kernel
theorem dX12_isClear_56 : decode cX12_isClear 56 = .ok (.isub, 1) := by decide +kernel
theorem dX12_isClear_57 : decode cX12_isClear 57 = .ok (.istore 7, 2) := by decide +kernel
theorem dX12_isClear_59 : decode cX12_isClear 59 = .ok (.iload 5, 2) := by decide +kernel
theorem dX12_isClear_61 : decode cX12_isClear 61 = .ok (.bipush 8, 2) := by decide +kernel
theorem dX12_isClear_63 : decode cX12_isClear 63 = .ok (.idiv, 1) := by decide +kernel
theorem dX12_isClear_64 : decode cX12_isClear 64 = .ok (.iload_n 1, 1) := by decide +kernel
theorem dX12_isClear_65 : decode cX12_isClear 65 = .ok (.bipush 8, 2) := by decide +kernel
theorem dX12_isClear_67 : decode cX12_isClear 67 = .ok (.idiv, 1) := by decide +kernel
theorem dX12_isClear_68 : decode cX12_isClear 68 = .ok (.isub, 1) := by decide +kernel
theorem dX12_isClear_69 : decode cX12_isClear 69 = .ok (.istore 8, 2) := by decide +kernel
theorem dX12_isClear_71 : decode cX12_isClear 71 = .ok (.iload 5, 2) := by decide +kernel
theorem dX12_isClear_73 : decode cX12_isClear 73 = .ok (.bipush 8, 2) := by decide +kernel
theorem dX12_isClear_75 : decode cX12_isClear 75 = .ok (.irem, 1) := by decide +kernel
theorem dX12_isClear_76 : decode cX12_isClear 76 = .ok (.iload_n 1, 1) := by decide +kernel
theorem dX12_isClear_77 : decode cX12_isClear 77 = .ok (.bipush 8, 2) := by decide +kernel
theorem dX12_isClear_79 : decode cX12_isClear 79 = .ok (.irem, 1) := by decide +kernel
theorem dX12_isClear_80 : decode cX12_isClear 80 = .ok (.isub, 1) := by decide +kernel
theorem dX12_isClear_81 : decode cX12_isClear 81 = .ok (.istore 9, 2) := by decide +kernel
theorem dX12_isClear_83 : decode cX12_isClear 83 = .ok (.iload 6, 2) := by decide +kernel
theorem dX12_isClear_85 : decode cX12_isClear 85 = .ok (.iload 8, 2) := by decide +kernel
theorem dX12_isClear_87 : decode cX12_isClear 87 = .ok (.imul, 1) := by decide +kernel
theorem dX12_isClear_88 : decode cX12_isClear 88 = .ok (.iload 7, 2) := by decide +kernel
theorem dX12_isClear_90 : decode cX12_isClear 90 = .ok (.iload 9, 2) := by decide +kernel
theorem dX12_isClear_92 : decode cX12_isClear 92 = .ok (.imul, 1) := by decide +kernel
theorem dX12_isClear_93 : decode cX12_isClear 93 = .ok (.iadd, 1) := by decide +kernel
theorem dX12_isClear_94 : decode cX12_isClear 94 = .ok (.istore 10, 2) := by decide +kernel
theorem dX12_isClear_96 : decode cX12_isClear 96 = .ok (.iload 6, 2) := by decide +kernel
theorem dX12_isClear_98 : decode cX12_isClear 98 = .ok (.iload 9, 2) := by decide +kernel
theorem dX12_isClear_100 : decode cX12_isClear 100 = .ok (.imul, 1) := by decide +kernel
theorem dX12_isClear_101 : decode cX12_isClear 101 = .ok (.iload 7, 2) := by decide +kernel
theorem dX12_isClear_103 : decode cX12_isClear 103 = .ok (.iload 8, 2) := by decide +kernel
theorem dX12_isClear_105 : decode cX12_isClear 105 = .ok (.imul, 1) := by decide +kernel
theorem dX12_isClear_106 : decode cX12_isClear 106 = .ok (.isub, 1) := by decide +kernel
theorem dX12_isClear_107 : decode cX12_isClear 107 = .ok (.istore 11, 2) := by decide +kernel
theorem dX12_isClear_109 : decode cX12_isClear 109 = .ok (.iload 10, 2) := by decide +kernel
theorem dX12_isClear_111 : decode cX12_isClear 111 = .ok (.ifCond .le 22, 3) := by decide +kernel
theorem dX12_isClear_114 : decode cX12_isClear 114 = .ok (.iload 10, 2) := by decide +kernel
theorem dX12_isClear_116 : decode cX12_isClear 116 = .ok (.iload 4, 2) := by decide +kernel
theorem dX12_isClear_118 : decode cX12_isClear 118 = .ok (.if_icmp .ge 15, 3) := by decide +kernel
theorem dX12_isClear_121 : decode cX12_isClear 121 = .ok (.iconst 4, 1) := by decide +kernel
theorem dX12_isClear_122 : decode cX12_isClear 122 = .ok (.iload 11, 2) := by decide +kernel
theorem dX12_isClear_124 : decode cX12_isClear 124 = .ok (.imul, 1) := by decide +kernel
theorem dX12_isClear_125 : decode cX12_isClear 125 = .ok (.iload 11, 2) := by decide +kernel
theorem dX12_isClear_127 : decode cX12_isClear 127 = .ok (.imul, 1) := by decide +kernel
theorem dX12_isClear_128 : decode cX12_isClear 128 = .ok (.iload 4, 2) := by decide +kernel
theorem dX12_isClear_130 : decode cX12_isClear 130 = .ok (.if_icmp .lt 7, 3) := by decide +kernel
theorem dX12_isClear_133 : decode cX12_isClear 133 = .ok (.iconst 1, 1) := by decide +kernel
theorem dX12_isClear_134 : decode cX12_isClear 134 = .ok (.goto 4, 3) := by decide +kernel
theorem dX12_isClear_137 : decode cX12_isClear 137 = .ok (.iconst 0, 1) := by decide +kernel
theorem dX12_isClear_138 : decode cX12_isClear 138 = .ok (.istore_n 3, 1) := by decide +kernel
theorem dX12_isClear_139 : decode cX12_isClear 139 = .ok (.iinc 5 1, 3) := by decide +kernel
theorem dX12_isClear_142 : decode cX12_isClear 142 = .ok (.goto (-130), 3) := by decide +kernel
theorem dX12_isClear_145 : decode cX12_isClear 145 = .ok (.iload_n 3, 1) := by decide +kernel
theorem dX12_isClear_146 : decode cX12_isClear 146 = .ok (.ireturn, 1) := by decide +kernel
theorem dX12_areReading_0 : decode cX12_areReading 0 = .ok (.iload_n 1, 1) := by decide +kernel
theorem dX12_areReading_1 : decode cX12_areReading 1 = .ok (.iload_n 3, 1) := by decide +kernel
theorem dX12_areReading_2 : decode cX12_areReading 2 = .ok (.iload_n 2, 1) := by decide +kernel
theorem dX12_areReading_3 : decode cX12_areReading 3 = .ok (.invokestatic 140, 3) := by decide +kernel
theorem dX12_areReading_6 : decode cX12_areReading 6 = .ok (.ifCond .le 41, 3) := by decide +kernel
theorem dX12_areReading_9 : decode cX12_areReading 9 = .ok (.iload_n 3, 1) := by decide +kernel
theorem dX12_areReading_10 : decode cX12_areReading 10 = .ok (.iload_n 1, 1) := by decide +kernel
theorem dX12_areReading_11 : decode cX12_areReading 11 = .ok (.iload 4, 2) := by decide +kernel
theorem dX12_areReading_13 : decode cX12_areReading 13 = .ok (.invokestatic 140, 3) := by decide +kernel
theorem dX12_areReading_16 : decode cX12_areReading 16 = .ok (.ifCond .le 31, 3) := by decide +kernel
theorem dX12_areReading_19 : decode cX12_areReading 19 = .ok (.iload_n 1, 1) := by decide +kernel
theorem dX12_areReading_20 : decode cX12_areReading 20 = .ok (.iload_n 3, 1) := by decide +kernel
theorem dX12_areReading_21 : decode cX12_areReading 21 = .ok (.invokestatic 137, 3) := by decide +kernel
theorem dX12_areReading_24 : decode cX12_areReading 24 = .ok (.aload_n 0, 1) := by decide +kernel
theorem dX12_areReading_25 : decode cX12_areReading 25 = .ok (.getfield 7, 3) := by decide +kernel
theorem dX12_areReading_28 : decode cX12_areReading 28 = .ok (.bipush 6, 2) := by decide +kernel
theorem dX12_areReading_30 : decode cX12_areReading 30 = .ok (.iaload, 1) := by decide +kernel
theorem dX12_areReading_31 : decode cX12_areReading 31 = .ok (.if_icmp .gt 16, 3) := by decide +kernel
theorem dX12_areReading_34 : decode cX12_areReading 34 = .ok (.aload_n 0, 1) := by decide +kernel
theorem dX12_areReading_35 : decode cX12_areReading 35 = .ok (.iload_n 1, 1) := by decide +kernel
theorem dX12_areReading_36 : decode cX12_areReading 36 = .ok (.iload_n 3, 1) := by decide +kernel
theorem dX12_areReading_37 : decode cX12_areReading 37 = .ok (.invokevirtual 144, 3) := by decide +kernel
theorem dX12_areReading_40 : decode cX12_areReading 40 = .ok (.ifCond .eq 7, 3) := by decide +kernel
theorem dX12_areReading_43 : decode cX12_areReading 43 = .ok (.iconst 1, 1) := by decide +kernel
theorem dX12_areReading_44 : decode cX12_areReading 44 = .ok (.goto 4, 3) := by decide +kernel
theorem dX12_areReading_47 : decode cX12_areReading 47 = .ok (.iconst 0, 1) := by decide +kernel
theorem dX12_areReading_48 : decode cX12_areReading 48 = .ok (.ireturn, 1) := by decide +kernel
theorem dX12_areFacing_0 : decode cX12_areFacing 0 = .ok (.aload_n 0, 1) := by decide +kernel
theorem dX12_areFacing_1 : decode cX12_areFacing 1 = .ok (.aload_n 0, 1) := by decide +kernel
theorem dX12_areFacing_2 : decode cX12_areFacing 2 = .ok (.iload_n 1, 1) := by decide +kernel
theorem dX12_areFacing_3 : decode cX12_areFacing 3 = .ok (.invokevirtual 115, 3) := by decide +kernel
theorem dX12_areFacing_6 : decode cX12_areFacing 6 = .ok (.aload_n 0, 1) := by decide +kernel
theorem dX12_areFacing_7 : decode cX12_areFacing 7 = .ok (.iload_n 1, 1) := by decide +kernel
theorem dX12_areFacing_8 : decode cX12_areFacing 8 = .ok (.invokevirtual 148, 3) := by decide +kernel
theorem dX12_areFacing_11 : decode cX12_areFacing 11 = .ok (.aload_n 0, 1) := by decide +kernel
theorem dX12_areFacing_12 : decode cX12_areFacing 12 = .ok (.iload_n 2, 1) := by decide +kernel
theorem dX12_areFacing_13 : decode cX12_areFacing 13 = .ok (.invokevirtual 115, 3) := by decide +kernel
theorem dX12_areFacing_16 : decode cX12_areFacing 16 = .ok (.aload_n 0, 1) := by decide +kernel
theorem dX12_areFacing_17 : decode cX12_areFacing 17 = .ok (.iload_n 2, 1) := by decide +kernel
theorem dX12_areFacing_18 : decode cX12_areFacing 18 = .ok (.invokevirtual 148, 3) := by decide +kernel
theorem dX12_areFacing_21 : decode cX12_areFacing 21 = .ok (.invokevirtual 151, 3) := by decide +kernel
theorem dX12_areFacing_24 : decode cX12_areFacing 24 = .ok (.ireturn, 1) := by decide +kernel
theorem dX12_watches_0 : decode cX12_watches 0 = .ok (.aload_n 0, 1) := by decide +kernel
theorem dX12_watches_1 : decode cX12_watches 1 = .ok (.iload_n 1, 1) := by decide +kernel
theorem dX12_watches_2 : decode cX12_watches 2 = .ok (.invokevirtual 115, 3) := by decide +kernel
theorem dX12_watches_5 : decode cX12_watches 5 = .ok (.istore_n 3, 1) := by decide +kernel
theorem dX12_watches_6 : decode cX12_watches 6 = .ok (.aload_n 0, 1) := by decide +kernel
theorem dX12_watches_7 : decode cX12_watches 7 = .ok (.iload_n 2, 1) := by decide +kernel
theorem dX12_watches_8 : decode cX12_watches 8 = .ok (.invokevirtual 115, 3) := by decide +kernel
theorem dX12_watches_11 : decode cX12_watches 11 = .ok (.istore 4, 2) := by decide +kernel
theorem dX12_watches_13 : decode cX12_watches 13 = .ok (.iload_n 3, 1) := by decide +kernel
theorem dX12_watches_14 : decode cX12_watches 14 = .ok (.iload 4, 2) := by decide +kernel
theorem dX12_watches_16 : decode cX12_watches 16 = .ok (.aload_n 0, 1) := by decide +kernel
theorem dX12_watches_17 : decode cX12_watches 17 = .ok (.iload_n 1, 1) := by decide +kernel
theorem dX12_watches_18 : decode cX12_watches 18 = .ok (.invokevirtual 148, 3) := by decide +kernel
theorem dX12_watches_21 : decode cX12_watches 21 = .ok (.invokestatic 140, 3) := by decide +kernel
theorem dX12_watches_24 : decode cX12_watches 24 = .ok (.ifCond .le 47, 3) := by decide +kernel
theorem dX12_watches_27 : decode cX12_watches 27 = .ok (.iload 4, 2) := by decide +kernel
theorem dX12_watches_29 : decode cX12_watches 29 = .ok (.iload_n 3, 1) := by decide +kernel
theorem dX12_watches_30 : decode cX12_watches 30 = .ok (.aload_n 0, 1) := by decide +kernel
theorem dX12_watches_31 : decode cX12_watches 31 = .ok (.iload_n 2, 1) := by decide +kernel
theorem dX12_watches_32 : decode cX12_watches 32 = .ok (.invokevirtual 148, 3) := by decide +kernel
theorem dX12_watches_35 : decode cX12_watches 35 = .ok (.invokestatic 140, 3) := by decide +kernel
theorem dX12_watches_38 : decode cX12_watches 38 = .ok (.ifCond .lt 33, 3) := by decide +kernel
theorem dX12_watches_41 : decode cX12_watches 41 = .ok (.iload_n 3, 1) := by decide +kernel
theorem dX12_watches_42 : decode cX12_watches 42 = .ok (.iload 4, 2) := by decide +kernel
theorem dX12_watches_44 : decode cX12_watches 44 = .ok (.invokestatic 137, 3) := by decide +kernel
theorem dX12_watches_47 : decode cX12_watches 47 = .ok (.aload_n 0, 1) := by decide +kernel
theorem dX12_watches_48 : decode cX12_watches 48 = .ok (.getfield 7, 3) := by decide +kernel
theorem dX12_watches_51 : decode cX12_watches 51 = .ok (.bipush 7, 2) := by decide +kernel
theorem dX12_watches_53 : decode cX12_watches 53 = .ok (.iaload, 1) := by decide +kernel
theorem dX12_watches_54 : decode cX12_watches 54 = .ok (.if_icmp .gt 17, 3) := by decide +kernel
theorem dX12_watches_57 : decode cX12_watches 57 = .ok (.aload_n 0, 1) := by decide +kernel
theorem dX12_watches_58 : decode cX12_watches 58 = .ok (.iload_n 3, 1) := by decide +kernel
theorem dX12_watches_59 : decode cX12_watches 59 = .ok (.iload 4, 2) := by decide +kernel
theorem dX12_watches_61 : decode cX12_watches 61 = .ok (.invokevirtual 144, 3) := by decide +kernel
theorem dX12_watches_64 : decode cX12_watches 64 = .ok (.ifCond .eq 7, 3) := by decide +kernel
theorem dX12_watches_67 : decode cX12_watches 67 = .ok (.iconst 1, 1) := by decide +kernel
theorem dX12_watches_68 : decode cX12_watches 68 = .ok (.goto 4, 3) := by decide +kernel
theorem dX12_watches_71 : decode cX12_watches 71 = .ok (.iconst 0, 1) := by decide +kernel
theorem dX12_watches_72 : decode cX12_watches 72 = .ok (.ireturn, 1) := by decide +kernel
theorem dX12_areTwo_0 : decode cX12_areTwo 0 = .ok (.aload_n 0, 1) := by decide +kernel
theorem dX12_areTwo_1 : decode cX12_areTwo 1 = .ok (.iload_n 1, 1) := by decide +kernel
theorem dX12_areTwo_2 : decode cX12_areTwo 2 = .ok (.invokevirtual 127, 3) := by decide +kernel
theorem dX12_areTwo_5 : decode cX12_areTwo 5 = .ok (.ifCond .eq 20, 3) := by decide +kernel
theorem dX12_areTwo_8 : decode cX12_areTwo 8 = .ok (.aload_n 0, 1) := by decide +kernel
theorem dX12_areTwo_9 : decode cX12_areTwo 9 = .ok (.iload_n 2, 1) := by decide +kernel
theorem dX12_areTwo_10 : decode cX12_areTwo 10 = .ok (.invokevirtual 127, 3) := by decide +kernel
theorem dX12_areTwo_13 : decode cX12_areTwo 13 = .ok (.ifCond .eq 12, 3) := by decide +kernel
theorem dX12_areTwo_16 : decode cX12_areTwo 16 = .ok (.iload_n 1, 1) := by decide +kernel
theorem dX12_areTwo_17 : decode cX12_areTwo 17 = .ok (.iload_n 2, 1) := by decide +kernel
theorem dX12_areTwo_18 : decode cX12_areTwo 18 = .ok (.if_icmp .eq 7, 3) := by decide +kernel
theorem dX12_areTwo_21 : decode cX12_areTwo 21 = .ok (.iconst 1, 1) := by decide +kernel
theorem dX12_areTwo_22 : decode cX12_areTwo 22 = .ok (.goto 4, 3) := by decide +kernel
theorem dX12_areTwo_25 : decode cX12_areTwo 25 = .ok (.iconst 0, 1) := by decide +kernel
theorem dX12_areTwo_26 : decode cX12_areTwo 26 = .ok (.ireturn, 1) := by decide +kernel
theorem dX12_sees_0 : decode cX12_sees 0 = .ok (.aload_n 0, 1) := by decide +kernel
theorem dX12_sees_1 : decode cX12_sees 1 = .ok (.iload_n 1, 1) := by decide +kernel
theorem dX12_sees_2 : decode cX12_sees 2 = .ok (.iload_n 2, 1) := by decide +kernel
theorem dX12_sees_3 : decode cX12_sees 3 = .ok (.invokevirtual 155, 3) := by decide +kernel
theorem dX12_sees_6 : decode cX12_sees 6 = .ok (.ifCond .eq 13, 3) := by decide +kernel
theorem dX12_sees_9 : decode cX12_sees 9 = .ok (.iload_n 3, 1) := by decide +kernel
theorem dX12_sees_10 : decode cX12_sees 10 = .ok (.i2l, 1) := by decide +kernel
theorem dX12_sees_11 : decode cX12_sees 11 = .ok (.lconst 0, 1) := by decide +kernel
theorem dX12_sees_12 : decode cX12_sees 12 = .ok (.lconst 1, 1) := by decide +kernel
theorem dX12_sees_13 : decode cX12_sees 13 = .ok (.invokestatic 109, 3) := by decide +kernel
theorem dX12_sees_16 : decode cX12_sees 16 = .ok (.ifCond .ne 6, 3) := by decide +kernel
theorem dX12_sees_19 : decode cX12_sees 19 = .ok (.bipush (-2), 2) := by decide +kernel
theorem dX12_sees_21 : decode cX12_sees 21 = .ok (.ireturn, 1) := by decide +kernel
theorem dX12_sees_22 : decode cX12_sees 22 = .ok (.iload_n 3, 1) := by decide +kernel
theorem dX12_sees_23 : decode cX12_sees 23 = .ok (.ifCond .ne 12, 3) := by decide +kernel
theorem dX12_sees_26 : decode cX12_sees 26 = .ok (.aload_n 0, 1) := by decide +kernel
theorem dX12_sees_27 : decode cX12_sees 27 = .ok (.iload_n 1, 1) := by decide +kernel
theorem dX12_sees_28 : decode cX12_sees 28 = .ok (.iload_n 2, 1) := by decide +kernel
theorem dX12_sees_29 : decode cX12_sees 29 = .ok (.invokevirtual 158, 3) := by decide +kernel
theorem dX12_sees_32 : decode cX12_sees 32 = .ok (.goto 9, 3) := by decide +kernel
theorem dX12_sees_35 : decode cX12_sees 35 = .ok (.aload_n 0, 1) := by decide +kernel
theorem dX12_sees_36 : decode cX12_sees 36 = .ok (.iload_n 1, 1) := by decide +kernel
theorem dX12_sees_37 : decode cX12_sees 37 = .ok (.iload_n 2, 1) := by decide +kernel
theorem dX12_sees_38 : decode cX12_sees 38 = .ok (.invokevirtual 161, 3) := by decide +kernel
theorem dX12_sees_41 : decode cX12_sees 41 = .ok (.istore 4, 2) := by decide +kernel
theorem dX12_sees_43 : decode cX12_sees 43 = .ok (.iload 4, 2) := by decide +kernel
theorem dX12_sees_45 : decode cX12_sees 45 = .ok (.ifCond .eq 7, 3) := by decide +kernel
theorem dX12_sees_48 : decode cX12_sees 48 = .ok (.iconst 1, 1) := by decide +kernel
theorem dX12_sees_49 : decode cX12_sees 49 = .ok (.goto 4, 3) := by decide +kernel
theorem dX12_sees_52 : decode cX12_sees 52 = .ok (.iconst 0, 1) := by decide +kernel
theorem dX12_sees_53 : decode cX12_sees 53 = .ok (.ireturn, 1) := by decide +kernel
theorem dX12_clear_0 : decode cX12_clear 0 = .ok (.aload_n 0, 1) := by decide +kernel
theorem dX12_clear_1 : decode cX12_clear 1 = .ok (.iload_n 1, 1) := by decide +kernel
theorem dX12_clear_2 : decode cX12_clear 2 = .ok (.iload_n 2, 1) := by decide +kernel
theorem dX12_clear_3 : decode cX12_clear 3 = .ok (.invokevirtual 155, 3) := by decide +kernel
theorem dX12_clear_6 : decode cX12_clear 6 = .ok (.ifCond .ne 8, 3) := by decide +kernel
theorem dX12_clear_9 : decode cX12_clear 9 = .ok (.bipush (-2), 2) := by decide +kernel
theorem dX12_clear_11 : decode cX12_clear 11 = .ok (.goto 25, 3) := by decide +kernel
theorem dX12_clear_14 : decode cX12_clear 14 = .ok (.aload_n 0, 1) := by decide +kernel
theorem dX12_clear_15 : decode cX12_clear 15 = .ok (.aload_n 0, 1) := by decide +kernel
theorem dX12_clear_16 : decode cX12_clear 16 = .ok (.iload_n 1, 1) := by decide +kernel
theorem dX12_clear_17 : decode cX12_clear 17 = .ok (.invokevirtual 115, 3) := by decide +kernel
theorem dX12_clear_20 : decode cX12_clear 20 = .ok (.aload_n 0, 1) := by decide +kernel
theorem dX12_clear_21 : decode cX12_clear 21 = .ok (.iload_n 2, 1) := by decide +kernel
theorem dX12_clear_22 : decode cX12_clear 22 = .ok (.invokevirtual 115, 3) := by decide +kernel
theorem dX12_clear_25 : decode cX12_clear 25 = .ok (.invokevirtual 144, 3) := by decide +kernel
theorem dX12_clear_28 : decode cX12_clear 28 = .ok (.ifCond .eq 7, 3) := by decide +kernel
theorem dX12_clear_31 : decode cX12_clear 31 = .ok (.iconst 1, 1) := by decide +kernel
theorem dX12_clear_32 : decode cX12_clear 32 = .ok (.goto 4, 3) := by decide +kernel
theorem dX12_clear_35 : decode cX12_clear 35 = .ok (.iconst 0, 1) := by decide +kernel
theorem dX12_clear_36 : decode cX12_clear 36 = .ok (.ireturn, 1) := by decide +kernel
theorem dX12_looks_0 : decode cX12_looks 0 = .ok (.iconst 0, 1) := by decide +kernel
theorem dX12_looks_1 : decode cX12_looks 1 = .ok (.istore_n 2, 1) := by decide +kernel
theorem dX12_looks_2 : decode cX12_looks 2 = .ok (.iload_n 2, 1) := by decide +kernel
theorem dX12_looks_3 : decode cX12_looks 3 = .ok (.aload_n 0, 1) := by decide +kernel
theorem dX12_looks_4 : decode cX12_looks 4 = .ok (.getfield 7, 3) := by decide +kernel
theorem dX12_looks_7 : decode cX12_looks 7 = .ok (.iconst 1, 1) := by decide +kernel
theorem dX12_looks_8 : decode cX12_looks 8 = .ok (.iaload, 1) := by decide +kernel
theorem dX12_looks_9 : decode cX12_looks 9 = .ok (.if_icmp .ge 117, 3) := by decide +kernel
theorem dX12_looks_12 : decode cX12_looks 12 = .ok (.iconst 0, 1) := by decide +kernel
theorem dX12_looks_13 : decode cX12_looks 13 = .ok (.istore_n 3, 1) := by decide +kernel
theorem dX12_looks_14 : decode cX12_looks 14 = .ok (.iload_n 3, 1) := by decide +kernel
theorem dX12_looks_15 : decode cX12_looks 15 = .ok (.aload_n 0, 1) := by decide +kernel
theorem dX12_looks_16 : decode cX12_looks 16 = .ok (.getfield 7, 3) := by decide +kernel
theorem dX12_looks_19 : decode cX12_looks 19 = .ok (.iconst 1, 1) := by decide +kernel
theorem dX12_looks_20 : decode cX12_looks 20 = .ok (.iaload, 1) := by decide +kernel
theorem dX12_looks_21 : decode cX12_looks 21 = .ok (.if_icmp .ge 99, 3) := by decide +kernel
theorem dX12_looks_24 : decode cX12_looks 24 = .ok (.iload_n 2, 1) := by decide +kernel
theorem dX12_looks_25 : decode cX12_looks 25 = .ok (.iload_n 3, 1) := by decide +kernel
theorem dX12_looks_26 : decode cX12_looks 26 = .ok (.if_icmp .eq 16, 3) := by decide +kernel
theorem dX12_looks_29 : decode cX12_looks 29 = .ok (.aload_n 0, 1) := by decide +kernel
theorem dX12_looks_30 : decode cX12_looks 30 = .ok (.iload_n 2, 1) := by decide +kernel
theorem dX12_looks_31 : decode cX12_looks 31 = .ok (.iload_n 3, 1) := by decide +kernel
theorem dX12_looks_32 : decode cX12_looks 32 = .ok (.invokevirtual 158, 3) := by decide +kernel
theorem dX12_looks_35 : decode cX12_looks 35 = .ok (.ifCond .eq 7, 3) := by decide +kernel
theorem dX12_looks_38 : decode cX12_looks 38 = .ok (.iconst 1, 1) := by decide +kernel
theorem dX12_looks_39 : decode cX12_looks 39 = .ok (.goto 4, 3) := by decide +kernel
theorem dX12_looks_42 : decode cX12_looks 42 = .ok (.iconst 0, 1) := by decide +kernel
theorem dX12_looks_43 : decode cX12_looks 43 = .ok (.istore 4, 2) := by decide +kernel
theorem dX12_looks_45 : decode cX12_looks 45 = .ok (.iload_n 2, 1) := by decide +kernel
theorem dX12_looks_46 : decode cX12_looks 46 = .ok (.iload_n 3, 1) := by decide +kernel
theorem dX12_looks_47 : decode cX12_looks 47 = .ok (.if_icmp .eq 16, 3) := by decide +kernel
theorem dX12_looks_50 : decode cX12_looks 50 = .ok (.aload_n 0, 1) := by decide +kernel
theorem dX12_looks_51 : decode cX12_looks 51 = .ok (.iload_n 2, 1) := by decide +kernel
theorem dX12_looks_52 : decode cX12_looks 52 = .ok (.iload_n 3, 1) := by decide +kernel
theorem dX12_looks_53 : decode cX12_looks 53 = .ok (.invokevirtual 161, 3) := by decide +kernel
theorem dX12_looks_56 : decode cX12_looks 56 = .ok (.ifCond .eq 7, 3) := by decide +kernel
theorem dX12_looks_59 : decode cX12_looks 59 = .ok (.iconst 1, 1) := by decide +kernel
theorem dX12_looks_60 : decode cX12_looks 60 = .ok (.goto 4, 3) := by decide +kernel
theorem dX12_looks_63 : decode cX12_looks 63 = .ok (.iconst 0, 1) := by decide +kernel
theorem dX12_looks_64 : decode cX12_looks 64 = .ok (.istore 5, 2) := by decide +kernel
theorem dX12_looks_66 : decode cX12_looks 66 = .ok (.aload_n 0, 1) := by decide +kernel
theorem dX12_looks_67 : decode cX12_looks 67 = .ok (.getfield 29, 3) := by decide +kernel
theorem dX12_looks_70 : decode cX12_looks 70 = .ok (.bipush 8, 2) := by decide +kernel
theorem dX12_looks_72 : decode cX12_looks 72 = .ok (.iload_n 2, 1) := by decide +kernel
theorem dX12_looks_73 : decode cX12_looks 73 = .ok (.imul, 1) := by decide +kernel
theorem dX12_looks_74 : decode cX12_looks 74 = .ok (.iload_n 3, 1) := by decide +kernel
theorem dX12_looks_75 : decode cX12_looks 75 = .ok (.iadd, 1) := by decide +kernel
theorem dX12_looks_76 : decode cX12_looks 76 = .ok (.iload_n 1, 1) := by decide +kernel
theorem dX12_looks_77 : decode cX12_looks 77 = .ok (.ifCond .ne 8, 3) := by decide +kernel
theorem dX12_looks_80 : decode cX12_looks 80 = .ok (.iload 4, 2) := by decide +kernel
theorem dX12_looks_82 : decode cX12_looks 82 = .ok (.goto 5, 3) := by decide +kernel
theorem dX12_looks_85 : decode cX12_looks 85 = .ok (.iload 5, 2) := by decide +kernel
theorem dX12_looks_87 : decode cX12_looks 87 = .ok (.bastore, 1) := by decide +kernel
theorem dX12_looks_88 : decode cX12_looks 88 = .ok (.aload_n 0, 1) := by decide +kernel
theorem dX12_looks_89 : decode cX12_looks 89 = .ok (.getfield 32, 3) := by decide +kernel
theorem dX12_looks_92 : decode cX12_looks 92 = .ok (.bipush 8, 2) := by decide +kernel
theorem dX12_looks_94 : decode cX12_looks 94 = .ok (.iload_n 2, 1) := by decide +kernel
theorem dX12_looks_95 : decode cX12_looks 95 = .ok (.imul, 1) := by decide +kernel
theorem dX12_looks_96 : decode cX12_looks 96 = .ok (.iload_n 3, 1) := by decide +kernel
theorem dX12_looks_97 : decode cX12_looks 97 = .ok (.iadd, 1) := by decide +kernel
theorem dX12_looks_98 : decode cX12_looks 98 = .ok (.iload 4, 2) := by decide +kernel
theorem dX12_looks_100 : decode cX12_looks 100 = .ok (.ifCond .ne 8, 3) := by decide +kernel
theorem dX12_looks_103 : decode cX12_looks 103 = .ok (.iload 5, 2) := by decide +kernel
theorem dX12_looks_105 : decode cX12_looks 105 = .ok (.ifCond .eq 7, 3) := by decide +kernel
theorem dX12_looks_108 : decode cX12_looks 108 = .ok (.iconst 1, 1) := by decide +kernel
theorem dX12_looks_109 : decode cX12_looks 109 = .ok (.goto 4, 3) := by decide +kernel
theorem dX12_looks_112 : decode cX12_looks 112 = .ok (.iconst 0, 1) := by decide +kernel
theorem dX12_looks_113 : decode cX12_looks 113 = .ok (.bastore, 1) := by decide +kernel
theorem dX12_looks_114 : decode cX12_looks 114 = .ok (.iinc 3 1, 3) := by decide +kernel
theorem dX12_looks_117 : decode cX12_looks 117 = .ok (.goto (-103), 3) := by decide +kernel
theorem dX12_looks_120 : decode cX12_looks 120 = .ok (.iinc 2 1, 3) := by decide +kernel
theorem dX12_looks_123 : decode cX12_looks 123 = .ok (.goto (-121), 3) := by decide +kernel
theorem dX12_looks_126 : decode cX12_looks 126 = .ok (.return_, 1) := by decide +kernel
theorem dX12_can_0 : decode cX12_can 0 = .ok (.aload_n 0, 1) := by decide +kernel
theorem dX12_can_1 : decode cX12_can 1 = .ok (.getfield 7, 3) := by decide +kernel
theorem dX12_can_4 : decode cX12_can 4 = .ok (.bipush 80, 2) := by decide +kernel
theorem dX12_can_6 : decode cX12_can 6 = .ok (.iconst 4, 1) := by decide +kernel
theorem dX12_can_7 : decode cX12_can 7 = .ok (.iload_n 1, 1) := by decide +kernel
theorem dX12_can_8 : decode cX12_can 8 = .ok (.imul, 1) := by decide +kernel
theorem dX12_can_9 : decode cX12_can 9 = .ok (.iadd, 1) := by decide +kernel
theorem dX12_can_10 : decode cX12_can 10 = .ok (.iconst 2, 1) := by decide +kernel
theorem dX12_can_11 : decode cX12_can 11 = .ok (.iadd, 1) := by decide +kernel
theorem dX12_can_12 : decode cX12_can 12 = .ok (.iload_n 2, 1) := by decide +kernel
theorem dX12_can_13 : decode cX12_can 13 = .ok (.iadd, 1) := by decide +kernel
theorem dX12_can_14 : decode cX12_can 14 = .ok (.iaload, 1) := by decide +kernel
theorem dX12_can_15 : decode cX12_can 15 = .ok (.iload_n 3, 1) := by decide +kernel
theorem dX12_can_16 : decode cX12_can 16 = .ok (.bipush 12, 2) := by decide +kernel
theorem dX12_can_18 : decode cX12_can 18 = .ok (.irem, 1) := by decide +kernel
theorem dX12_can_19 : decode cX12_can 19 = .ok (.ishr, 1) := by decide +kernel
theorem dX12_can_20 : decode cX12_can 20 = .ok (.iconst 1, 1) := by decide +kernel
theorem dX12_can_21 : decode cX12_can 21 = .ok (.iand, 1) := by decide +kernel
theorem dX12_can_22 : decode cX12_can 22 = .ok (.iconst 1, 1) := by decide +kernel
theorem dX12_can_23 : decode cX12_can 23 = .ok (.if_icmp .ne 7, 3) := by decide +kernel
theorem dX12_can_26 : decode cX12_can 26 = .ok (.iconst 1, 1) := by decide +kernel
theorem dX12_can_27 : decode cX12_can 27 = .ok (.goto 4, 3) := by decide +kernel
theorem dX12_can_30 : decode cX12_can 30 = .ok (.iconst 0, 1) := by decide +kernel
theorem dX12_can_31 : decode cX12_can 31 = .ok (.ireturn, 1) := by decide +kernel
theorem dX12_spreads_0 : decode cX12_spreads 0 = .ok (.aload_n 0, 1) := by decide +kernel
theorem dX12_spreads_1 : decode cX12_spreads 1 = .ok (.iload_n 3, 1) := by decide +kernel
theorem dX12_spreads_2 : decode cX12_spreads 2 = .ok (.invokevirtual 164, 3) := by decide +kernel
theorem dX12_spreads_5 : decode cX12_spreads 5 = .ok (.iconst 0, 1) := by decide +kernel
theorem dX12_spreads_6 : decode cX12_spreads 6 = .ok (.istore 5, 2) := by decide +kernel
theorem dX12_spreads_8 : decode cX12_spreads 8 = .ok (.iload 5, 2) := by decide +kernel
theorem dX12_spreads_10 : decode cX12_spreads 10 = .ok (.bipush 8, 2) := by decide +kernel
theorem dX12_spreads_12 : decode cX12_spreads 12 = .ok (.if_icmp .ge 36, 3) := by decide +kernel
theorem dX12_spreads_15 : decode cX12_spreads 15 = .ok (.aload_n 0, 1) := by decide +kernel
theorem dX12_spreads_16 : decode cX12_spreads 16 = .ok (.getfield 35, 3) := by decide +kernel
theorem dX12_spreads_19 : decode cX12_spreads 19 = .ok (.iload 5, 2) := by decide +kernel
theorem dX12_spreads_21 : decode cX12_spreads 21 = .ok (.iload 5, 2) := by decide +kernel
theorem dX12_spreads_23 : decode cX12_spreads 23 = .ok (.iload_n 1, 1) := by decide +kernel
theorem dX12_spreads_24 : decode cX12_spreads 24 = .ok (.if_icmp .ne 7, 3) := by decide +kernel
theorem dX12_spreads_27 : decode cX12_spreads 27 = .ok (.iload_n 2, 1) := by decide +kernel
theorem dX12_spreads_28 : decode cX12_spreads 28 = .ok (.goto 5, 3) := by decide +kernel
theorem dX12_spreads_31 : decode cX12_spreads 31 = .ok (.ldc 167, 2) := by decide +kernel
theorem dX12_spreads_33 : decode cX12_spreads 33 = .ok (.iastore, 1) := by decide +kernel
theorem dX12_spreads_34 : decode cX12_spreads 34 = .ok (.aload_n 0, 1) := by decide +kernel
theorem dX12_spreads_35 : decode cX12_spreads 35 = .ok (.getfield 38, 3) := by decide +kernel
theorem dX12_spreads_38 : decode cX12_spreads 38 = .ok (.iload 5, 2) := by decide +kernel
theorem dX12_spreads_40 : decode cX12_spreads 40 = .ok (.iconst (-1), 1) := by decide +kernel
theorem dX12_spreads_41 : decode cX12_spreads 41 = .ok (.iastore, 1) := by decide +kernel
theorem dX12_spreads_42 : decode cX12_spreads 42 = .ok (.iinc 5 1, 3) := by decide +kernel
theorem dX12_spreads_45 : decode cX12_spreads 45 = .ok (.goto (-37), 3) := by decide +kernel
theorem dX12_spreads_48 : decode cX12_spreads 48 = .ok (.iload_n 2, 1) := by decide +kernel
theorem dX12_spreads_49 : decode cX12_spreads 49 = .ok (.istore 5, 2) := by decide +kernel
theorem dX12_spreads_51 : decode cX12_spreads 51 = .ok (.iload 5, 2) := by decide +kernel
theorem dX12_spreads_53 : decode cX12_spreads 53 = .ok (.sipush 240, 3) := by decide +kernel
theorem dX12_spreads_56 : decode cX12_spreads 56 = .ok (.if_icmp .ge 216, 3) := by decide +kernel
theorem dX12_spreads_59 : decode cX12_spreads 59 = .ok (.iconst 0, 1) := by decide +kernel
theorem dX12_spreads_60 : decode cX12_spreads 60 = .ok (.istore 6, 2) := by decide +kernel
theorem dX12_spreads_62 : decode cX12_spreads 62 = .ok (.iload 6, 2) := by decide +kernel
theorem dX12_spreads_64 : decode cX12_spreads 64 = .ok (.aload_n 0, 1) := by decide +kernel
theorem dX12_spreads_65 : decode cX12_spreads 65 = .ok (.getfield 7, 3) := by decide +kernel
theorem dX12_spreads_68 : decode cX12_spreads 68 = .ok (.iconst 1, 1) := by decide +kernel
theorem dX12_spreads_69 : decode cX12_spreads 69 = .ok (.iaload, 1) := by decide +kernel
theorem dX12_spreads_70 : decode cX12_spreads 70 = .ok (.if_icmp .ge 196, 3) := by decide +kernel
theorem dX12_spreads_73 : decode cX12_spreads 73 = .ok (.aload_n 0, 1) := by decide +kernel
theorem dX12_spreads_74 : decode cX12_spreads 74 = .ok (.getfield 35, 3) := by decide +kernel
theorem dX12_spreads_77 : decode cX12_spreads 77 = .ok (.iload 6, 2) := by decide +kernel
theorem dX12_spreads_79 : decode cX12_spreads 79 = .ok (.iaload, 1) := by decide +kernel
theorem dX12_spreads_80 : decode cX12_spreads 80 = .ok (.iload 5, 2) := by decide +kernel
theorem dX12_spreads_82 : decode cX12_spreads 82 = .ok (.if_icmp .gt 19, 3) := by decide +kernel
theorem dX12_spreads_85 : decode cX12_spreads 85 = .ok (.aload_n 0, 1) := by decide +kernel
theorem dX12_spreads_86 : decode cX12_spreads 86 = .ok (.iload 6, 2) := by decide +kernel
theorem dX12_spreads_88 : decode cX12_spreads 88 = .ok (.iconst 0, 1) := by decide +kernel
theorem dX12_spreads_89 : decode cX12_spreads 89 = .ok (.iload 5, 2) := by decide +kernel
theorem dX12_spreads_91 : decode cX12_spreads 91 = .ok (.invokevirtual 168, 3) := by decide +kernel
theorem dX12_spreads_94 : decode cX12_spreads 94 = .ok (.ifCond .eq 7, 3) := by decide +kernel
theorem dX12_spreads_97 : decode cX12_spreads 97 = .ok (.iconst 1, 1) := by decide +kernel
theorem dX12_spreads_98 : decode cX12_spreads 98 = .ok (.goto 4, 3) := by decide +kernel
theorem dX12_spreads_101 : decode cX12_spreads 101 = .ok (.iconst 0, 1) := by decide +kernel
theorem dX12_spreads_102 : decode cX12_spreads 102 = .ok (.istore 7, 2) := by decide +kernel
theorem dX12_spreads_104 : decode cX12_spreads 104 = .ok (.iload 4, 2) := by decide +kernel
theorem dX12_spreads_106 : decode cX12_spreads 106 = .ok (.iconst (-1), 1) := by decide +kernel
theorem dX12_spreads_107 : decode cX12_spreads 107 = .ok (.if_icmp .eq 53, 3) := by decide +kernel
theorem dX12_spreads_110 : decode cX12_spreads 110 = .ok (.aload_n 0, 1) := by decide +kernel
theorem dX12_spreads_111 : decode cX12_spreads 111 = .ok (.getfield 32, 3) := by decide +kernel
theorem dX12_spreads_114 : decode cX12_spreads 114 = .ok (.bipush 8, 2) := by decide +kernel
theorem dX12_spreads_116 : decode cX12_spreads 116 = .ok (.iload 4, 2) := by decide +kernel
theorem dX12_spreads_118 : decode cX12_spreads 118 = .ok (.ifCond .ge 7, 3) := by decide +kernel
theorem dX12_spreads_121 : decode cX12_spreads 121 = .ok (.iconst 0, 1) := by decide +kernel
theorem dX12_spreads_122 : decode cX12_spreads 122 = .ok (.goto 5, 3) := by decide +kernel
theorem dX12_spreads_125 : decode cX12_spreads 125 = .ok (.iload 4, 2) := by decide +kernel
theorem dX12_spreads_127 : decode cX12_spreads 127 = .ok (.imul, 1) := by decide +kernel
theorem dX12_spreads_128 : decode cX12_spreads 128 = .ok (.iload 6, 2) := by decide +kernel
theorem dX12_spreads_130 : decode cX12_spreads 130 = .ok (.iadd, 1) := by decide +kernel
theorem dX12_spreads_131 : decode cX12_spreads 131 = .ok (.baload, 1) := by decide +kernel
theorem dX12_spreads_132 : decode cX12_spreads 132 = .ok (.ifCond .eq 28, 3) := by decide +kernel
theorem dX12_spreads_135 : decode cX12_spreads 135 = .ok (.aload_n 0, 1) := by decide +kernel
theorem dX12_spreads_136 : decode cX12_spreads 136 = .ok (.iload 4, 2) := by decide +kernel
theorem dX12_spreads_138 : decode cX12_spreads 138 = .ok (.ifCond .ge 7, 3) := by decide +kernel
theorem dX12_spreads_141 : decode cX12_spreads 141 = .ok (.iconst 0, 1) := by decide +kernel
theorem dX12_spreads_142 : decode cX12_spreads 142 = .ok (.goto 5, 3) := by decide +kernel
theorem dX12_spreads_145 : decode cX12_spreads 145 = .ok (.iload 4, 2) := by decide +kernel
theorem dX12_spreads_147 : decode cX12_spreads 147 = .ok (.iconst 1, 1) := by decide +kernel
theorem dX12_spreads_148 : decode cX12_spreads 148 = .ok (.iload 5, 2) := by decide +kernel
theorem dX12_spreads_150 : decode cX12_spreads 150 = .ok (.invokevirtual 168, 3) := by decide +kernel
theorem dX12_spreads_153 : decode cX12_spreads 153 = .ok (.ifCond .eq 7, 3) := by decide +kernel
theorem dX12_spreads_156 : decode cX12_spreads 156 = .ok (.iconst 1, 1) := by decide +kernel
theorem dX12_spreads_157 : decode cX12_spreads 157 = .ok (.goto 4, 3) := by decide +kernel
theorem dX12_spreads_160 : decode cX12_spreads 160 = .ok (.iconst 0, 1) := by decide +kernel
theorem dX12_spreads_161 : decode cX12_spreads 161 = .ok (.istore 8, 2) := by decide +kernel
theorem dX12_spreads_163 : decode cX12_spreads 163 = .ok (.iconst 0, 1) := by decide +kernel
theorem dX12_spreads_164 : decode cX12_spreads 164 = .ok (.istore 9, 2) := by decide +kernel
theorem dX12_spreads_166 : decode cX12_spreads 166 = .ok (.iload 9, 2) := by decide +kernel
theorem dX12_spreads_168 : decode cX12_spreads 168 = .ok (.aload_n 0, 1) := by decide +kernel
theorem dX12_spreads_169 : decode cX12_spreads 169 = .ok (.getfield 7, 3) := by decide +kernel
theorem dX12_spreads_172 : decode cX12_spreads 172 = .ok (.iconst 1, 1) := by decide +kernel
theorem dX12_spreads_173 : decode cX12_spreads 173 = .ok (.iaload, 1) := by decide +kernel
theorem dX12_spreads_174 : decode cX12_spreads 174 = .ok (.if_icmp .ge 86, 3) := by decide +kernel
theorem dX12_spreads_177 : decode cX12_spreads 177 = .ok (.iload 7, 2) := by decide +kernel
theorem dX12_spreads_179 : decode cX12_spreads 179 = .ok (.ifCond .eq 81, 3) := by decide +kernel
theorem dX12_spreads_182 : decode cX12_spreads 182 = .ok (.iload 8, 2) := by decide +kernel
theorem dX12_spreads_184 : decode cX12_spreads 184 = .ok (.ifCond .ne 76, 3) := by decide +kernel
theorem dX12_spreads_187 : decode cX12_spreads 187 = .ok (.aload_n 0, 1) := by decide +kernel
theorem dX12_spreads_188 : decode cX12_spreads 188 = .ok (.getfield 35, 3) := by decide +kernel
theorem dX12_spreads_191 : decode cX12_spreads 191 = .ok (.iload 9, 2) := by decide +kernel
theorem dX12_spreads_193 : decode cX12_spreads 193 = .ok (.iaload, 1) := by decide +kernel
theorem dX12_spreads_194 : decode cX12_spreads 194 = .ok (.ldc 167, 2) := by decide +kernel
theorem dX12_spreads_196 : decode cX12_spreads 196 = .ok (.if_icmp .ne 58, 3) := by decide +kernel
theorem dX12_spreads_199 : decode cX12_spreads 199 = .ok (.iload 9, 2) := by decide +kernel
theorem dX12_spreads_201 : decode cX12_spreads 201 = .ok (.iload 4, 2) := by decide +kernel
theorem dX12_spreads_203 : decode cX12_spreads 203 = .ok (.if_icmp .eq 51, 3) := by decide +kernel
theorem dX12_spreads_206 : decode cX12_spreads 206 = .ok (.aload_n 0, 1) := by decide +kernel
theorem dX12_spreads_207 : decode cX12_spreads 207 = .ok (.getfield 29, 3) := by decide +kernel
theorem dX12_spreads_210 : decode cX12_spreads 210 = .ok (.bipush 8, 2) := by decide +kernel
theorem dX12_spreads_212 : decode cX12_spreads 212 = .ok (.iload 9, 2) := by decide +kernel
theorem dX12_spreads_214 : decode cX12_spreads 214 = .ok (.imul, 1) := by decide +kernel
theorem dX12_spreads_215 : decode cX12_spreads 215 = .ok (.iload 6, 2) := by decide +kernel
theorem dX12_spreads_217 : decode cX12_spreads 217 = .ok (.iadd, 1) := by decide +kernel
theorem dX12_spreads_218 : decode cX12_spreads 218 = .ok (.baload, 1) := by decide +kernel
theorem dX12_spreads_219 : decode cX12_spreads 219 = .ok (.ifCond .eq 35, 3) := by decide +kernel
theorem dX12_spreads_222 : decode cX12_spreads 222 = .ok (.aload_n 0, 1) := by decide +kernel
theorem dX12_spreads_223 : decode cX12_spreads 223 = .ok (.iload 9, 2) := by decide +kernel
theorem dX12_spreads_225 : decode cX12_spreads 225 = .ok (.iconst 1, 1) := by decide +kernel
theorem dX12_spreads_226 : decode cX12_spreads 226 = .ok (.iload 5, 2) := by decide +kernel
theorem dX12_spreads_228 : decode cX12_spreads 228 = .ok (.invokevirtual 168, 3) := by decide +kernel
theorem dX12_spreads_231 : decode cX12_spreads 231 = .ok (.ifCond .eq 23, 3) := by decide +kernel
theorem dX12_spreads_234 : decode cX12_spreads 234 = .ok (.aload_n 0, 1) := by decide +kernel
theorem dX12_spreads_235 : decode cX12_spreads 235 = .ok (.getfield 35, 3) := by decide +kernel
theorem dX12_spreads_238 : decode cX12_spreads 238 = .ok (.iload 9, 2) := by decide +kernel
theorem dX12_spreads_240 : decode cX12_spreads 240 = .ok (.iload 5, 2) := by decide +kernel
theorem dX12_spreads_242 : decode cX12_spreads 242 = .ok (.iconst 1, 1) := by decide +kernel
theorem dX12_spreads_243 : decode cX12_spreads 243 = .ok (.iadd, 1) := by decide +kernel
theorem dX12_spreads_244 : decode cX12_spreads 244 = .ok (.iastore, 1) := by decide +kernel
theorem dX12_spreads_245 : decode cX12_spreads 245 = .ok (.aload_n 0, 1) := by decide +kernel
theorem dX12_spreads_246 : decode cX12_spreads 246 = .ok (.getfield 38, 3) := by decide +kernel
theorem dX12_spreads_249 : decode cX12_spreads 249 = .ok (.iload 9, 2) := by decide +kernel
theorem dX12_spreads_251 : decode cX12_spreads 251 = .ok (.iload 6, 2) := by decide +kernel
theorem dX12_spreads_253 : decode cX12_spreads 253 = .ok (.iastore, 1) := by decide +kernel
theorem dX12_spreads_254 : decode cX12_spreads 254 = .ok (.iinc 9 1, 3) := by decide +kernel
theorem dX12_spreads_257 : decode cX12_spreads 257 = .ok (.goto (-91), 3) := by decide +kernel
theorem dX12_spreads_260 : decode cX12_spreads 260 = .ok (.iinc 6 1, 3) := by decide +kernel
theorem dX12_spreads_263 : decode cX12_spreads 263 = .ok (.goto (-201), 3) := by decide +kernel
theorem dX12_spreads_266 : decode cX12_spreads 266 = .ok (.iinc 5 1, 3) := by decide +kernel
theorem dX12_spreads_269 : decode cX12_spreads 269 = .ok (.goto (-218), 3) := by decide +kernel
theorem dX12_spreads_272 : decode cX12_spreads 272 = .ok (.return_, 1) := by decide +kernel
theorem dX12_isNews_0 : decode cX12_isNews 0 = .ok (.aload_n 0, 1) := by decide +kernel
theorem dX12_isNews_1 : decode cX12_isNews 1 = .ok (.iload_n 1, 1) := by decide +kernel
theorem dX12_isNews_2 : decode cX12_isNews 2 = .ok (.invokevirtual 127, 3) := by decide +kernel
theorem dX12_isNews_5 : decode cX12_isNews 5 = .ok (.ifCond .eq 46, 3) := by decide +kernel
theorem dX12_isNews_8 : decode cX12_isNews 8 = .ok (.aload_n 0, 1) := by decide +kernel
theorem dX12_isNews_9 : decode cX12_isNews 9 = .ok (.iload_n 2, 1) := by decide +kernel
theorem dX12_isNews_10 : decode cX12_isNews 10 = .ok (.invokevirtual 127, 3) := by decide +kernel
theorem dX12_isNews_13 : decode cX12_isNews 13 = .ok (.ifCond .eq 38, 3) := by decide +kernel
theorem dX12_isNews_16 : decode cX12_isNews 16 = .ok (.iload_n 3, 1) := by decide +kernel
theorem dX12_isNews_17 : decode cX12_isNews 17 = .ok (.i2l, 1) := by decide +kernel
theorem dX12_isNews_18 : decode cX12_isNews 18 = .ok (.lconst 0, 1) := by decide +kernel
theorem dX12_isNews_19 : decode cX12_isNews 19 = .ok (.lconst 1, 1) := by decide +kernel
theorem dX12_isNews_20 : decode cX12_isNews 20 = .ok (.invokestatic 109, 3) := by decide +kernel
theorem dX12_isNews_23 : decode cX12_isNews 23 = .ok (.ifCond .eq 28, 3) := by decide +kernel
theorem dX12_isNews_26 : decode cX12_isNews 26 = .ok (.iload 4, 2) := by decide +kernel
theorem dX12_isNews_28 : decode cX12_isNews 28 = .ok (.iconst (-1), 1) := by decide +kernel
theorem dX12_isNews_29 : decode cX12_isNews 29 = .ok (.if_icmp .eq 18, 3) := by decide +kernel
theorem dX12_isNews_32 : decode cX12_isNews 32 = .ok (.aload_n 0, 1) := by decide +kernel
theorem dX12_isNews_33 : decode cX12_isNews 33 = .ok (.iload 4, 2) := by decide +kernel
theorem dX12_isNews_35 : decode cX12_isNews 35 = .ok (.invokevirtual 127, 3) := by decide +kernel
theorem dX12_isNews_38 : decode cX12_isNews 38 = .ok (.ifCond .eq 13, 3) := by decide +kernel
theorem dX12_isNews_41 : decode cX12_isNews 41 = .ok (.iload 4, 2) := by decide +kernel
theorem dX12_isNews_43 : decode cX12_isNews 43 = .ok (.iload_n 1, 1) := by decide +kernel
theorem dX12_isNews_44 : decode cX12_isNews 44 = .ok (.if_icmp .eq 7, 3) := by decide +kernel
theorem dX12_isNews_47 : decode cX12_isNews 47 = .ok (.iconst 1, 1) := by decide +kernel
theorem dX12_isNews_48 : decode cX12_isNews 48 = .ok (.goto 4, 3) := by decide +kernel
theorem dX12_isNews_51 : decode cX12_isNews 51 = .ok (.iconst 0, 1) := by decide +kernel
theorem dX12_isNews_52 : decode cX12_isNews 52 = .ok (.ireturn, 1) := by decide +kernel
theorem dX12_knows_0 : decode cX12_knows 0 = .ok (.aload_n 0, 1) := by decide +kernel
theorem dX12_knows_1 : decode cX12_knows 1 = .ok (.iload_n 1, 1) := by decide +kernel
theorem dX12_knows_2 : decode cX12_knows 2 = .ok (.iload_n 2, 1) := by decide +kernel
theorem dX12_knows_3 : decode cX12_knows 3 = .ok (.iload_n 3, 1) := by decide +kernel
theorem dX12_knows_4 : decode cX12_knows 4 = .ok (.iload 4, 2) := by decide +kernel
theorem dX12_knows_6 : decode cX12_knows 6 = .ok (.invokevirtual 172, 3) := by decide +kernel
theorem dX12_knows_9 : decode cX12_knows 9 = .ok (.ifCond .ne 6, 3) := by decide +kernel
theorem dX12_knows_12 : decode cX12_knows 12 = .ok (.bipush (-10), 2) := by decide +kernel
theorem dX12_knows_14 : decode cX12_knows 14 = .ok (.ireturn, 1) := by decide +kernel
theorem dX12_knows_15 : decode cX12_knows 15 = .ok (.aload_n 0, 1) := by decide +kernel
theorem dX12_knows_16 : decode cX12_knows 16 = .ok (.iload_n 1, 1) := by decide +kernel
theorem dX12_knows_17 : decode cX12_knows 17 = .ok (.iconst 0, 1) := by decide +kernel
theorem dX12_knows_18 : decode cX12_knows 18 = .ok (.iload_n 3, 1) := by decide +kernel
theorem dX12_knows_19 : decode cX12_knows 19 = .ok (.iload 4, 2) := by decide +kernel
theorem dX12_knows_21 : decode cX12_knows 21 = .ok (.invokevirtual 175, 3) := by decide +kernel
theorem dX12_knows_24 : decode cX12_knows 24 = .ok (.aload_n 0, 1) := by decide +kernel
theorem dX12_knows_25 : decode cX12_knows 25 = .ok (.getfield 35, 3) := by decide +kernel
theorem dX12_knows_28 : decode cX12_knows 28 = .ok (.iload_n 2, 1) := by decide +kernel
theorem dX12_knows_29 : decode cX12_knows 29 = .ok (.iaload, 1) := by decide +kernel
theorem dX12_knows_30 : decode cX12_knows 30 = .ok (.ldc 167, 2) := by decide +kernel
theorem dX12_knows_32 : decode cX12_knows 32 = .ok (.if_icmp .ge 12, 3) := by decide +kernel
theorem dX12_knows_35 : decode cX12_knows 35 = .ok (.aload_n 0, 1) := by decide +kernel
theorem dX12_knows_36 : decode cX12_knows 36 = .ok (.getfield 35, 3) := by decide +kernel
theorem dX12_knows_39 : decode cX12_knows 39 = .ok (.iload_n 2, 1) := by decide +kernel
theorem dX12_knows_40 : decode cX12_knows 40 = .ok (.iaload, 1) := by decide +kernel
theorem dX12_knows_41 : decode cX12_knows 41 = .ok (.goto 4, 3) := by decide +kernel
theorem dX12_knows_44 : decode cX12_knows 44 = .ok (.iconst (-1), 1) := by decide +kernel
theorem dX12_knows_45 : decode cX12_knows 45 = .ok (.ireturn, 1) := by decide +kernel
theorem dX12_teller_0 : decode cX12_teller 0 = .ok (.aload_n 0, 1) := by decide +kernel
theorem dX12_teller_1 : decode cX12_teller 1 = .ok (.iload_n 1, 1) := by decide +kernel
theorem dX12_teller_2 : decode cX12_teller 2 = .ok (.iload_n 2, 1) := by decide +kernel
theorem dX12_teller_3 : decode cX12_teller 3 = .ok (.iload_n 3, 1) := by decide +kernel
theorem dX12_teller_4 : decode cX12_teller 4 = .ok (.iload 4, 2) := by decide +kernel
theorem dX12_teller_6 : decode cX12_teller 6 = .ok (.invokevirtual 172, 3) := by decide +kernel
theorem dX12_teller_9 : decode cX12_teller 9 = .ok (.ifCond .ne 6, 3) := by decide +kernel
theorem dX12_teller_12 : decode cX12_teller 12 = .ok (.bipush (-10), 2) := by decide +kernel
theorem dX12_teller_14 : decode cX12_teller 14 = .ok (.ireturn, 1) := by decide +kernel
theorem dX12_teller_15 : decode cX12_teller 15 = .ok (.aload_n 0, 1) := by decide +kernel
theorem dX12_teller_16 : decode cX12_teller 16 = .ok (.iload_n 1, 1) := by decide +kernel
theorem dX12_teller_17 : decode cX12_teller 17 = .ok (.iconst 0, 1) := by decide +kernel
theorem dX12_teller_18 : decode cX12_teller 18 = .ok (.iload_n 3, 1) := by decide +kernel
theorem dX12_teller_19 : decode cX12_teller 19 = .ok (.iload 4, 2) := by decide +kernel
theorem dX12_teller_21 : decode cX12_teller 21 = .ok (.invokevirtual 175, 3) := by decide +kernel
theorem dX12_teller_24 : decode cX12_teller 24 = .ok (.aload_n 0, 1) := by decide +kernel
theorem dX12_teller_25 : decode cX12_teller 25 = .ok (.getfield 38, 3) := by decide +kernel
theorem dX12_teller_28 : decode cX12_teller 28 = .ok (.iload_n 2, 1) := by decide +kernel
theorem dX12_teller_29 : decode cX12_teller 29 = .ok (.iaload, 1) := by decide +kernel
theorem dX12_teller_30 : decode cX12_teller 30 = .ok (.ireturn, 1) := by decide +kernel
theorem dX12_meet_0 : decode cX12_meet 0 = .ok (.aload_n 0, 1) := by decide +kernel
theorem dX12_meet_1 : decode cX12_meet 1 = .ok (.iload_n 1, 1) := by decide +kernel
theorem dX12_meet_2 : decode cX12_meet 2 = .ok (.iload_n 2, 1) := by decide +kernel
theorem dX12_meet_3 : decode cX12_meet 3 = .ok (.invokevirtual 155, 3) := by decide +kernel
theorem dX12_meet_6 : decode cX12_meet 6 = .ok (.ifCond .eq 24, 3) := by decide +kernel
theorem dX12_meet_9 : decode cX12_meet 9 = .ok (.aload_n 0, 1) := by decide +kernel
theorem dX12_meet_10 : decode cX12_meet 10 = .ok (.iload 4, 2) := by decide +kernel
theorem dX12_meet_12 : decode cX12_meet 12 = .ok (.invokevirtual 127, 3) := by decide +kernel
theorem dX12_meet_15 : decode cX12_meet 15 = .ok (.ifCond .eq 15, 3) := by decide +kernel
theorem dX12_meet_18 : decode cX12_meet 18 = .ok (.iload_n 3, 1) := by decide +kernel
theorem dX12_meet_19 : decode cX12_meet 19 = .ok (.i2l, 1) := by decide +kernel
theorem dX12_meet_20 : decode cX12_meet 20 = .ok (.lconst 0, 1) := by decide +kernel
theorem dX12_meet_21 : decode cX12_meet 21 = .ok (.ldc2_w 179, 3) := by decide +kernel
theorem dX12_meet_24 : decode cX12_meet 24 = .ok (.invokestatic 109, 3) := by decide +kernel
theorem dX12_meet_27 : decode cX12_meet 27 = .ok (.ifCond .ne 6, 3) := by decide +kernel
theorem dX12_meet_30 : decode cX12_meet 30 = .ok (.bipush (-10), 2) := by decide +kernel
theorem dX12_meet_32 : decode cX12_meet 32 = .ok (.ireturn, 1) := by decide +kernel
theorem dX12_meet_33 : decode cX12_meet 33 = .ok (.aload_n 0, 1) := by decide +kernel
theorem dX12_meet_34 : decode cX12_meet 34 = .ok (.iload_n 1, 1) := by decide +kernel
theorem dX12_meet_35 : decode cX12_meet 35 = .ok (.iconst 0, 1) := by decide +kernel
theorem dX12_meet_36 : decode cX12_meet 36 = .ok (.iconst 0, 1) := by decide +kernel
theorem dX12_meet_37 : decode cX12_meet 37 = .ok (.iconst (-1), 1) := by decide +kernel
theorem dX12_meet_38 : decode cX12_meet 38 = .ok (.invokevirtual 175, 3) := by decide +kernel
theorem dX12_meet_41 : decode cX12_meet 41 = .ok (.aload_n 0, 1) := by decide +kernel
theorem dX12_meet_42 : decode cX12_meet 42 = .ok (.getfield 35, 3) := by decide +kernel
theorem dX12_meet_45 : decode cX12_meet 45 = .ok (.iload 4, 2) := by decide +kernel
theorem dX12_meet_47 : decode cX12_meet 47 = .ok (.iaload, 1) := by decide +kernel
theorem dX12_meet_48 : decode cX12_meet 48 = .ok (.istore 5, 2) := by decide +kernel
theorem dX12_meet_50 : decode cX12_meet 50 = .ok (.aload_n 0, 1) := by decide +kernel
theorem dX12_meet_51 : decode cX12_meet 51 = .ok (.iload_n 2, 1) := by decide +kernel
theorem dX12_meet_52 : decode cX12_meet 52 = .ok (.iload_n 3, 1) := by decide +kernel
theorem dX12_meet_53 : decode cX12_meet 53 = .ok (.iconst 0, 1) := by decide +kernel
theorem dX12_meet_54 : decode cX12_meet 54 = .ok (.iconst (-1), 1) := by decide +kernel
theorem dX12_meet_55 : decode cX12_meet 55 = .ok (.invokevirtual 175, 3) := by decide +kernel
theorem dX12_meet_58 : decode cX12_meet 58 = .ok (.aload_n 0, 1) := by decide +kernel
theorem dX12_meet_59 : decode cX12_meet 59 = .ok (.getfield 35, 3) := by decide +kernel
theorem dX12_meet_62 : decode cX12_meet 62 = .ok (.iload 4, 2) := by decide +kernel
theorem dX12_meet_64 : decode cX12_meet 64 = .ok (.iaload, 1) := by decide +kernel
theorem dX12_meet_65 : decode cX12_meet 65 = .ok (.istore 6, 2) := by decide +kernel
theorem dX12_meet_67 : decode cX12_meet 67 = .ok (.iload 5, 2) := by decide +kernel
theorem dX12_meet_69 : decode cX12_meet 69 = .ok (.iload 6, 2) := by decide +kernel
theorem dX12_meet_71 : decode cX12_meet 71 = .ok (.if_icmp .ne 18, 3) := by decide +kernel
theorem dX12_meet_74 : decode cX12_meet 74 = .ok (.iload 5, 2) := by decide +kernel
theorem dX12_meet_76 : decode cX12_meet 76 = .ok (.ldc 167, 2) := by decide +kernel
theorem dX12_meet_78 : decode cX12_meet 78 = .ok (.if_icmp .ne 7, 3) := by decide +kernel
theorem dX12_meet_81 : decode cX12_meet 81 = .ok (.iconst (-1), 1) := by decide +kernel
theorem dX12_meet_82 : decode cX12_meet 82 = .ok (.goto 19, 3) := by decide +kernel
theorem dX12_meet_85 : decode cX12_meet 85 = .ok (.iconst 2, 1) := by decide +kernel
theorem dX12_meet_86 : decode cX12_meet 86 = .ok (.goto 15, 3) := by decide +kernel
theorem dX12_meet_89 : decode cX12_meet 89 = .ok (.iload 5, 2) := by decide +kernel
theorem dX12_meet_91 : decode cX12_meet 91 = .ok (.iload 6, 2) := by decide +kernel
theorem dX12_meet_93 : decode cX12_meet 93 = .ok (.if_icmp .ge 7, 3) := by decide +kernel
theorem dX12_meet_96 : decode cX12_meet 96 = .ok (.iconst 0, 1) := by decide +kernel
theorem dX12_meet_97 : decode cX12_meet 97 = .ok (.goto 4, 3) := by decide +kernel
theorem dX12_meet_100 : decode cX12_meet 100 = .ok (.iconst 1, 1) := by decide +kernel
theorem dX12_meet_101 : decode cX12_meet 101 = .ok (.ireturn, 1) := by decide +kernel
theorem dX12_seen_0 : decode cX12_seen 0 = .ok (.aload_n 0, 1) := by decide +kernel
theorem dX12_seen_1 : decode cX12_seen 1 = .ok (.iload_n 1, 1) := by decide +kernel
theorem dX12_seen_2 : decode cX12_seen 2 = .ok (.invokevirtual 127, 3) := by decide +kernel
theorem dX12_seen_5 : decode cX12_seen 5 = .ok (.ifCond .eq 15, 3) := by decide +kernel
theorem dX12_seen_8 : decode cX12_seen 8 = .ok (.iload_n 2, 1) := by decide +kernel
theorem dX12_seen_9 : decode cX12_seen 9 = .ok (.i2l, 1) := by decide +kernel
theorem dX12_seen_10 : decode cX12_seen 10 = .ok (.lconst 0, 1) := by decide +kernel
theorem dX12_seen_11 : decode cX12_seen 11 = .ok (.ldc2_w 179, 3) := by decide +kernel
theorem dX12_seen_14 : decode cX12_seen 14 = .ok (.invokestatic 109, 3) := by decide +kernel
theorem dX12_seen_17 : decode cX12_seen 17 = .ok (.ifCond .ne 6, 3) := by decide +kernel
theorem dX12_seen_20 : decode cX12_seen 20 = .ok (.bipush (-2), 2) := by decide +kernel
theorem dX12_seen_22 : decode cX12_seen 22 = .ok (.ireturn, 1) := by decide +kernel
theorem dX12_seen_23 : decode cX12_seen 23 = .ok (.aload_n 0, 1) := by decide +kernel
theorem dX12_seen_24 : decode cX12_seen 24 = .ok (.getfield 7, 3) := by decide +kernel
theorem dX12_seen_27 : decode cX12_seen 27 = .ok (.iconst 2, 1) := by decide +kernel
theorem dX12_seen_28 : decode cX12_seen 28 = .ok (.iaload, 1) := by decide +kernel
theorem dX12_seen_29 : decode cX12_seen 29 = .ok (.bipush 10, 2) := by decide +kernel
theorem dX12_seen_31 : decode cX12_seen 31 = .ok (.if_icmp .ne 6, 3) := by decide +kernel
theorem dX12_seen_34 : decode cX12_seen 34 = .ok (.bipush (-4), 2) := by decide +kernel
theorem dX12_seen_36 : decode cX12_seen 36 = .ok (.ireturn, 1) := by decide +kernel
theorem dX12_seen_37 : decode cX12_seen 37 = .ok (.bipush 120, 2) := by decide +kernel
theorem dX12_seen_39 : decode cX12_seen 39 = .ok (.iconst 3, 1) := by decide +kernel
theorem dX12_seen_40 : decode cX12_seen 40 = .ok (.aload_n 0, 1) := by decide +kernel
theorem dX12_seen_41 : decode cX12_seen 41 = .ok (.getfield 7, 3) := by decide +kernel
theorem dX12_seen_44 : decode cX12_seen 44 = .ok (.iconst 2, 1) := by decide +kernel
theorem dX12_seen_45 : decode cX12_seen 45 = .ok (.iaload, 1) := by decide +kernel
theorem dX12_seen_46 : decode cX12_seen 46 = .ok (.imul, 1) := by decide +kernel
theorem dX12_seen_47 : decode cX12_seen 47 = .ok (.iadd, 1) := by decide +kernel
theorem dX12_seen_48 : decode cX12_seen 48 = .ok (.istore 4, 2) := by decide +kernel
theorem dX12_seen_50 : decode cX12_seen 50 = .ok (.aload_n 0, 1) := by decide +kernel
theorem dX12_seen_51 : decode cX12_seen 51 = .ok (.getfield 7, 3) := by decide +kernel
theorem dX12_seen_54 : decode cX12_seen 54 = .ok (.iload 4, 2) := by decide +kernel
theorem dX12_seen_56 : decode cX12_seen 56 = .ok (.iload_n 1, 1) := by decide +kernel
theorem dX12_seen_57 : decode cX12_seen 57 = .ok (.iastore, 1) := by decide +kernel
theorem dX12_seen_58 : decode cX12_seen 58 = .ok (.aload_n 0, 1) := by decide +kernel
theorem dX12_seen_59 : decode cX12_seen 59 = .ok (.getfield 7, 3) := by decide +kernel
theorem dX12_seen_62 : decode cX12_seen 62 = .ok (.iload 4, 2) := by decide +kernel
theorem dX12_seen_64 : decode cX12_seen 64 = .ok (.iconst 1, 1) := by decide +kernel
theorem dX12_seen_65 : decode cX12_seen 65 = .ok (.iadd, 1) := by decide +kernel
theorem dX12_seen_66 : decode cX12_seen 66 = .ok (.iload_n 2, 1) := by decide +kernel
theorem dX12_seen_67 : decode cX12_seen 67 = .ok (.iastore, 1) := by decide +kernel
theorem dX12_seen_68 : decode cX12_seen 68 = .ok (.aload_n 0, 1) := by decide +kernel
theorem dX12_seen_69 : decode cX12_seen 69 = .ok (.getfield 7, 3) := by decide +kernel
theorem dX12_seen_72 : decode cX12_seen 72 = .ok (.iload 4, 2) := by decide +kernel
theorem dX12_seen_74 : decode cX12_seen 74 = .ok (.iconst 2, 1) := by decide +kernel
theorem dX12_seen_75 : decode cX12_seen 75 = .ok (.iadd, 1) := by decide +kernel
theorem dX12_seen_76 : decode cX12_seen 76 = .ok (.iload_n 3, 1) := by decide +kernel
theorem dX12_seen_77 : decode cX12_seen 77 = .ok (.ifCond .eq 7, 3) := by decide +kernel
theorem dX12_seen_80 : decode cX12_seen 80 = .ok (.iconst 1, 1) := by decide +kernel
theorem dX12_seen_81 : decode cX12_seen 81 = .ok (.goto 4, 3) := by decide +kernel
theorem dX12_seen_84 : decode cX12_seen 84 = .ok (.iconst 0, 1) := by decide +kernel
theorem dX12_seen_85 : decode cX12_seen 85 = .ok (.iastore, 1) := by decide +kernel
theorem dX12_seen_86 : decode cX12_seen 86 = .ok (.aload_n 0, 1) := by decide +kernel
theorem dX12_seen_87 : decode cX12_seen 87 = .ok (.getfield 7, 3) := by decide +kernel
theorem dX12_seen_90 : decode cX12_seen 90 = .ok (.iconst 2, 1) := by decide +kernel
theorem dX12_seen_91 : decode cX12_seen 91 = .ok (.dup2, 1) := by decide +kernel
theorem dX12_seen_92 : decode cX12_seen 92 = .ok (.iaload, 1) := by decide +kernel
theorem dX12_seen_93 : decode cX12_seen 93 = .ok (.iconst 1, 1) := by decide +kernel
theorem dX12_seen_94 : decode cX12_seen 94 = .ok (.iadd, 1) := by decide +kernel
theorem dX12_seen_95 : decode cX12_seen 95 = .ok (.iastore, 1) := by decide +kernel
theorem dX12_seen_96 : decode cX12_seen 96 = .ok (.aload_n 0, 1) := by decide +kernel
theorem dX12_seen_97 : decode cX12_seen 97 = .ok (.getfield 7, 3) := by decide +kernel
theorem dX12_seen_100 : decode cX12_seen 100 = .ok (.iconst 2, 1) := by decide +kernel
theorem dX12_seen_101 : decode cX12_seen 101 = .ok (.iaload, 1) := by decide +kernel
theorem dX12_seen_102 : decode cX12_seen 102 = .ok (.ireturn, 1) := by decide +kernel
theorem dX12_source_0 : decode cX12_source 0 = .ok (.iconst 0, 1) := by decide +kernel
theorem dX12_source_1 : decode cX12_source 1 = .ok (.istore_n 1, 1) := by decide +kernel
theorem dX12_source_2 : decode cX12_source 2 = .ok (.iconst 0, 1) := by decide +kernel
theorem dX12_source_3 : decode cX12_source 3 = .ok (.istore_n 2, 1) := by decide +kernel
theorem dX12_source_4 : decode cX12_source 4 = .ok (.iload_n 2, 1) := by decide +kernel
theorem dX12_source_5 : decode cX12_source 5 = .ok (.aload_n 0, 1) := by decide +kernel
theorem dX12_source_6 : decode cX12_source 6 = .ok (.getfield 7, 3) := by decide +kernel
theorem dX12_source_9 : decode cX12_source 9 = .ok (.iconst 1, 1) := by decide +kernel
theorem dX12_source_10 : decode cX12_source 10 = .ok (.iaload, 1) := by decide +kernel
theorem dX12_source_11 : decode cX12_source 11 = .ok (.if_icmp .ge 126, 3) := by decide +kernel
theorem dX12_source_14 : decode cX12_source 14 = .ok (.aload_n 0, 1) := by decide +kernel
theorem dX12_source_15 : decode cX12_source 15 = .ok (.iload_n 2, 1) := by decide +kernel
theorem dX12_source_16 : decode cX12_source 16 = .ok (.iconst 0, 1) := by decide +kernel
theorem dX12_source_17 : decode cX12_source 17 = .ok (.iconst 0, 1) := by decide +kernel
theorem dX12_source_18 : decode cX12_source 18 = .ok (.iconst (-1), 1) := by decide +kernel
theorem dX12_source_19 : decode cX12_source 19 = .ok (.invokevirtual 175, 3) := by decide +kernel
theorem dX12_source_22 : decode cX12_source 22 = .ok (.iconst 1, 1) := by decide +kernel
theorem dX12_source_23 : decode cX12_source 23 = .ok (.istore_n 3, 1) := by decide +kernel
theorem dX12_source_24 : decode cX12_source 24 = .ok (.iconst 0, 1) := by decide +kernel
theorem dX12_source_25 : decode cX12_source 25 = .ok (.istore 4, 2) := by decide +kernel
theorem dX12_source_27 : decode cX12_source 27 = .ok (.iload 4, 2) := by decide +kernel
theorem dX12_source_29 : decode cX12_source 29 = .ok (.aload_n 0, 1) := by decide +kernel
theorem dX12_source_30 : decode cX12_source 30 = .ok (.getfield 7, 3) := by decide +kernel
theorem dX12_source_33 : decode cX12_source 33 = .ok (.iconst 2, 1) := by decide +kernel
theorem dX12_source_34 : decode cX12_source 34 = .ok (.iaload, 1) := by decide +kernel
theorem dX12_source_35 : decode cX12_source 35 = .ok (.if_icmp .ge 82, 3) := by decide +kernel
theorem dX12_source_38 : decode cX12_source 38 = .ok (.bipush 120, 2) := by decide +kernel
theorem dX12_source_40 : decode cX12_source 40 = .ok (.iconst 3, 1) := by decide +kernel
theorem dX12_source_41 : decode cX12_source 41 = .ok (.iload 4, 2) := by decide +kernel
theorem dX12_source_43 : decode cX12_source 43 = .ok (.imul, 1) := by decide +kernel
theorem dX12_source_44 : decode cX12_source 44 = .ok (.iadd, 1) := by decide +kernel
theorem dX12_source_45 : decode cX12_source 45 = .ok (.istore 5, 2) := by decide +kernel
theorem dX12_source_47 : decode cX12_source 47 = .ok (.aload_n 0, 1) := by decide +kernel
theorem dX12_source_48 : decode cX12_source 48 = .ok (.getfield 35, 3) := by decide +kernel
theorem dX12_source_51 : decode cX12_source 51 = .ok (.aload_n 0, 1) := by decide +kernel
theorem dX12_source_52 : decode cX12_source 52 = .ok (.getfield 7, 3) := by decide +kernel
theorem dX12_source_55 : decode cX12_source 55 = .ok (.iload 5, 2) := by decide +kernel
theorem dX12_source_57 : decode cX12_source 57 = .ok (.iaload, 1) := by decide +kernel
theorem dX12_source_58 : decode cX12_source 58 = .ok (.iaload, 1) := by decide +kernel
theorem dX12_source_59 : decode cX12_source 59 = .ok (.aload_n 0, 1) := by decide +kernel
theorem dX12_source_60 : decode cX12_source 60 = .ok (.getfield 7, 3) := by decide +kernel
theorem dX12_source_63 : decode cX12_source 63 = .ok (.iload 5, 2) := by decide +kernel
theorem dX12_source_65 : decode cX12_source 65 = .ok (.iconst 1, 1) := by decide +kernel
theorem dX12_source_66 : decode cX12_source 66 = .ok (.iadd, 1) := by decide +kernel
theorem dX12_source_67 : decode cX12_source 67 = .ok (.iaload, 1) := by decide +kernel
theorem dX12_source_68 : decode cX12_source 68 = .ok (.if_icmp .gt 7, 3) := by decide +kernel
theorem dX12_source_71 : decode cX12_source 71 = .ok (.iconst 1, 1) := by decide +kernel
theorem dX12_source_72 : decode cX12_source 72 = .ok (.goto 4, 3) := by decide +kernel
theorem dX12_source_75 : decode cX12_source 75 = .ok (.iconst 0, 1) := by decide +kernel
theorem dX12_source_76 : decode cX12_source 76 = .ok (.istore 6, 2) := by decide +kernel
theorem dX12_source_78 : decode cX12_source 78 = .ok (.iload_n 3, 1) := by decide +kernel
theorem dX12_source_79 : decode cX12_source 79 = .ok (.ifCond .eq 30, 3) := by decide +kernel
theorem dX12_source_82 : decode cX12_source 82 = .ok (.iload 6, 2) := by decide +kernel
theorem dX12_source_84 : decode cX12_source 84 = .ok (.aload_n 0, 1) := by decide +kernel
theorem dX12_source_85 : decode cX12_source 85 = .ok (.getfield 7, 3) := by decide +kernel
theorem dX12_source_88 : decode cX12_source 88 = .ok (.iload 5, 2) := by decide +kernel
theorem dX12_source_90 : decode cX12_source 90 = .ok (.iconst 2, 1) := by decide +kernel
theorem dX12_source_91 : decode cX12_source 91 = .ok (.iadd, 1) := by decide +kernel
theorem dX12_source_92 : decode cX12_source 92 = .ok (.iaload, 1) := by decide +kernel
theorem dX12_source_93 : decode cX12_source 93 = .ok (.iconst 1, 1) := by decide +kernel
theorem dX12_source_94 : decode cX12_source 94 = .ok (.if_icmp .ne 7, 3) := by decide +kernel
theorem dX12_source_97 : decode cX12_source 97 = .ok (.iconst 1, 1) := by decide +kernel
theorem dX12_source_98 : decode cX12_source 98 = .ok (.goto 4, 3) := by decide +kernel
theorem dX12_source_101 : decode cX12_source 101 = .ok (.iconst 0, 1) := by decide +kernel
theorem dX12_source_102 : decode cX12_source 102 = .ok (.if_icmp .ne 7, 3) := by decide +kernel
theorem dX12_source_105 : decode cX12_source 105 = .ok (.iconst 1, 1) := by decide +kernel
theorem dX12_source_106 : decode cX12_source 106 = .ok (.goto 4, 3) := by decide +kernel
theorem dX12_source_109 : decode cX12_source 109 = .ok (.iconst 0, 1) := by decide +kernel
theorem dX12_source_110 : decode cX12_source 110 = .ok (.istore_n 3, 1) := by decide +kernel
theorem dX12_source_111 : decode cX12_source 111 = .ok (.iinc 4 1, 3) := by decide +kernel
theorem dX12_source_114 : decode cX12_source 114 = .ok (.goto (-87), 3) := by decide +kernel
theorem dX12_source_117 : decode cX12_source 117 = .ok (.iload_n 1, 1) := by decide +kernel
theorem dX12_source_118 : decode cX12_source 118 = .ok (.iload_n 3, 1) := by decide +kernel
theorem dX12_source_119 : decode cX12_source 119 = .ok (.ifCond .eq 9, 3) := by decide +kernel
theorem dX12_source_122 : decode cX12_source 122 = .ok (.iconst 1, 1) := by decide +kernel
theorem dX12_source_123 : decode cX12_source 123 = .ok (.iload_n 2, 1) := by decide +kernel
theorem dX12_source_124 : decode cX12_source 124 = .ok (.ishl, 1) := by decide +kernel
theorem dX12_source_125 : decode cX12_source 125 = .ok (.goto 4, 3) := by decide +kernel
theorem dX12_source_128 : decode cX12_source 128 = .ok (.iconst 0, 1) := by decide +kernel
theorem dX12_source_129 : decode cX12_source 129 = .ok (.ior, 1) := by decide +kernel
theorem dX12_source_130 : decode cX12_source 130 = .ok (.istore_n 1, 1) := by decide +kernel
theorem dX12_source_131 : decode cX12_source 131 = .ok (.iinc 2 1, 3) := by decide +kernel
theorem dX12_source_134 : decode cX12_source 134 = .ok (.goto (-130), 3) := by decide +kernel
theorem dX12_source_137 : decode cX12_source 137 = .ok (.iload_n 1, 1) := by decide +kernel
theorem dX12_source_138 : decode cX12_source 138 = .ok (.ireturn, 1) := by decide +kernel
theorem dX12_isJoined_0 : decode cX12_isJoined 0 = .ok (.iconst 1, 1) := by decide +kernel
theorem dX12_isJoined_1 : decode cX12_isJoined 1 = .ok (.iload_n 1, 1) := by decide +kernel
theorem dX12_isJoined_2 : decode cX12_isJoined 2 = .ok (.ishl, 1) := by decide +kernel
theorem dX12_isJoined_3 : decode cX12_isJoined 3 = .ok (.istore 4, 2) := by decide +kernel
theorem dX12_isJoined_5 : decode cX12_isJoined 5 = .ok (.iconst 0, 1) := by decide +kernel
theorem dX12_isJoined_6 : decode cX12_isJoined 6 = .ok (.istore 5, 2) := by decide +kernel
theorem dX12_isJoined_8 : decode cX12_isJoined 8 = .ok (.iload 4, 2) := by decide +kernel
theorem dX12_isJoined_10 : decode cX12_isJoined 10 = .ok (.iload 5, 2) := by decide +kernel
theorem dX12_isJoined_12 : decode cX12_isJoined 12 = .ok (.if_icmp .eq 125, 3) := by decide +kernel
theorem dX12_isJoined_15 : decode cX12_isJoined 15 = .ok (.iload 4, 2) := by decide +kernel
theorem dX12_isJoined_17 : decode cX12_isJoined 17 = .ok (.istore 5, 2) := by decide +kernel
theorem dX12_isJoined_19 : decode cX12_isJoined 19 = .ok (.iconst 0, 1) := by decide +kernel
theorem dX12_isJoined_20 : decode cX12_isJoined 20 = .ok (.istore 6, 2) := by decide +kernel
theorem dX12_isJoined_22 : decode cX12_isJoined 22 = .ok (.iload 6, 2) := by decide +kernel
theorem dX12_isJoined_24 : decode cX12_isJoined 24 = .ok (.aload_n 0, 1) := by decide +kernel
theorem dX12_isJoined_25 : decode cX12_isJoined 25 = .ok (.getfield 7, 3) := by decide +kernel
theorem dX12_isJoined_28 : decode cX12_isJoined 28 = .ok (.iconst 1, 1) := by decide +kernel
theorem dX12_isJoined_29 : decode cX12_isJoined 29 = .ok (.iaload, 1) := by decide +kernel
theorem dX12_isJoined_30 : decode cX12_isJoined 30 = .ok (.if_icmp .ge 104, 3) := by decide +kernel
theorem dX12_isJoined_33 : decode cX12_isJoined 33 = .ok (.iconst 0, 1) := by decide +kernel
theorem dX12_isJoined_34 : decode cX12_isJoined 34 = .ok (.istore 7, 2) := by decide +kernel
theorem dX12_isJoined_36 : decode cX12_isJoined 36 = .ok (.iload 7, 2) := by decide +kernel
theorem dX12_isJoined_38 : decode cX12_isJoined 38 = .ok (.aload_n 0, 1) := by decide +kernel
theorem dX12_isJoined_39 : decode cX12_isJoined 39 = .ok (.getfield 7, 3) := by decide +kernel
theorem dX12_isJoined_42 : decode cX12_isJoined 42 = .ok (.iconst 1, 1) := by decide +kernel
theorem dX12_isJoined_43 : decode cX12_isJoined 43 = .ok (.iaload, 1) := by decide +kernel
theorem dX12_isJoined_44 : decode cX12_isJoined 44 = .ok (.if_icmp .ge 84, 3) := by decide +kernel
theorem dX12_isJoined_47 : decode cX12_isJoined 47 = .ok (.iload 6, 2) := by decide +kernel
theorem dX12_isJoined_49 : decode cX12_isJoined 49 = .ok (.iload_n 1, 1) := by decide +kernel
theorem dX12_isJoined_50 : decode cX12_isJoined 50 = .ok (.if_icmp .ne 13, 3) := by decide +kernel
theorem dX12_isJoined_53 : decode cX12_isJoined 53 = .ok (.iload 7, 2) := by decide +kernel
theorem dX12_isJoined_55 : decode cX12_isJoined 55 = .ok (.iload_n 2, 1) := by decide +kernel
theorem dX12_isJoined_56 : decode cX12_isJoined 56 = .ok (.if_icmp .ne 7, 3) := by decide +kernel
theorem dX12_isJoined_59 : decode cX12_isJoined 59 = .ok (.iconst 1, 1) := by decide +kernel
theorem dX12_isJoined_60 : decode cX12_isJoined 60 = .ok (.goto 4, 3) := by decide +kernel
theorem dX12_isJoined_63 : decode cX12_isJoined 63 = .ok (.iconst 0, 1) := by decide +kernel
theorem dX12_isJoined_64 : decode cX12_isJoined 64 = .ok (.istore 8, 2) := by decide +kernel
theorem dX12_isJoined_66 : decode cX12_isJoined 66 = .ok (.iload 4, 2) := by decide +kernel
theorem dX12_isJoined_68 : decode cX12_isJoined 68 = .ok (.iload 6, 2) := by decide +kernel
theorem dX12_isJoined_70 : decode cX12_isJoined 70 = .ok (.ishr, 1) := by decide +kernel
theorem dX12_isJoined_71 : decode cX12_isJoined 71 = .ok (.iconst 1, 1) := by decide +kernel
theorem dX12_isJoined_72 : decode cX12_isJoined 72 = .ok (.iand, 1) := by decide +kernel
theorem dX12_isJoined_73 : decode cX12_isJoined 73 = .ok (.iconst 1, 1) := by decide +kernel
theorem dX12_isJoined_74 : decode cX12_isJoined 74 = .ok (.if_icmp .ne 48, 3) := by decide +kernel
theorem dX12_isJoined_77 : decode cX12_isJoined 77 = .ok (.iload 6, 2) := by decide +kernel
theorem dX12_isJoined_79 : decode cX12_isJoined 79 = .ok (.iload_n 2, 1) := by decide +kernel
theorem dX12_isJoined_80 : decode cX12_isJoined 80 = .ok (.if_icmp .eq 42, 3) := by decide +kernel
theorem dX12_isJoined_83 : decode cX12_isJoined 83 = .ok (.aload_n 0, 1) := by decide +kernel
theorem dX12_isJoined_84 : decode cX12_isJoined 84 = .ok (.getfield 29, 3) := by decide +kernel
theorem dX12_isJoined_87 : decode cX12_isJoined 87 = .ok (.bipush 8, 2) := by decide +kernel
theorem dX12_isJoined_89 : decode cX12_isJoined 89 = .ok (.iload 7, 2) := by decide +kernel
theorem dX12_isJoined_91 : decode cX12_isJoined 91 = .ok (.imul, 1) := by decide +kernel
theorem dX12_isJoined_92 : decode cX12_isJoined 92 = .ok (.iload 6, 2) := by decide +kernel
theorem dX12_isJoined_94 : decode cX12_isJoined 94 = .ok (.iadd, 1) := by decide +kernel
theorem dX12_isJoined_95 : decode cX12_isJoined 95 = .ok (.baload, 1) := by decide +kernel
theorem dX12_isJoined_96 : decode cX12_isJoined 96 = .ok (.ifCond .eq 26, 3) := by decide +kernel
theorem dX12_isJoined_99 : decode cX12_isJoined 99 = .ok (.iload 8, 2) := by decide +kernel
theorem dX12_isJoined_101 : decode cX12_isJoined 101 = .ok (.ifCond .ne 21, 3) := by decide +kernel
theorem dX12_isJoined_104 : decode cX12_isJoined 104 = .ok (.iload_n 3, 1) := by decide +kernel
theorem dX12_isJoined_105 : decode cX12_isJoined 105 = .ok (.iload 7, 2) := by decide +kernel
theorem dX12_isJoined_107 : decode cX12_isJoined 107 = .ok (.ishr, 1) := by decide +kernel
theorem dX12_isJoined_108 : decode cX12_isJoined 108 = .ok (.iconst 1, 1) := by decide +kernel
theorem dX12_isJoined_109 : decode cX12_isJoined 109 = .ok (.iand, 1) := by decide +kernel
theorem dX12_isJoined_110 : decode cX12_isJoined 110 = .ok (.ifCond .ne 12, 3) := by decide +kernel
theorem dX12_isJoined_113 : decode cX12_isJoined 113 = .ok (.iload 4, 2) := by decide +kernel
theorem dX12_isJoined_115 : decode cX12_isJoined 115 = .ok (.iconst 1, 1) := by decide +kernel
theorem dX12_isJoined_116 : decode cX12_isJoined 116 = .ok (.iload 7, 2) := by decide +kernel
theorem dX12_isJoined_118 : decode cX12_isJoined 118 = .ok (.ishl, 1) := by decide +kernel
theorem dX12_isJoined_119 : decode cX12_isJoined 119 = .ok (.ior, 1) := by decide +kernel
theorem dX12_isJoined_120 : decode cX12_isJoined 120 = .ok (.istore 4, 2) := by decide +kernel
theorem dX12_isJoined_122 : decode cX12_isJoined 122 = .ok (.iinc 7 1, 3) := by decide +kernel
theorem dX12_isJoined_125 : decode cX12_isJoined 125 = .ok (.goto (-89), 3) := by decide +kernel
theorem dX12_isJoined_128 : decode cX12_isJoined 128 = .ok (.iinc 6 1, 3) := by decide +kernel
theorem dX12_isJoined_131 : decode cX12_isJoined 131 = .ok (.goto (-109), 3) := by decide +kernel
theorem dX12_isJoined_134 : decode cX12_isJoined 134 = .ok (.goto (-126), 3) := by decide +kernel
theorem dX12_isJoined_137 : decode cX12_isJoined 137 = .ok (.iload 4, 2) := by decide +kernel
theorem dX12_isJoined_139 : decode cX12_isJoined 139 = .ok (.iload_n 2, 1) := by decide +kernel
theorem dX12_isJoined_140 : decode cX12_isJoined 140 = .ok (.ishr, 1) := by decide +kernel
theorem dX12_isJoined_141 : decode cX12_isJoined 141 = .ok (.iconst 1, 1) := by decide +kernel
theorem dX12_isJoined_142 : decode cX12_isJoined 142 = .ok (.iand, 1) := by decide +kernel
theorem dX12_isJoined_143 : decode cX12_isJoined 143 = .ok (.iconst 1, 1) := by decide +kernel
theorem dX12_isJoined_144 : decode cX12_isJoined 144 = .ok (.if_icmp .ne 7, 3) := by decide +kernel
theorem dX12_isJoined_147 : decode cX12_isJoined 147 = .ok (.iconst 1, 1) := by decide +kernel
theorem dX12_isJoined_148 : decode cX12_isJoined 148 = .ok (.goto 4, 3) := by decide +kernel
theorem dX12_isJoined_151 : decode cX12_isJoined 151 = .ok (.iconst 0, 1) := by decide +kernel
theorem dX12_isJoined_152 : decode cX12_isJoined 152 = .ok (.ireturn, 1) := by decide +kernel
theorem dX12_sizeOf_0 : decode cX12_sizeOf 0 = .ok (.iconst 0, 1) := by decide +kernel
theorem dX12_sizeOf_1 : decode cX12_sizeOf 1 = .ok (.istore_n 1, 1) := by decide +kernel
theorem dX12_sizeOf_2 : decode cX12_sizeOf 2 = .ok (.iload_n 0, 1) := by decide +kernel
theorem dX12_sizeOf_3 : decode cX12_sizeOf 3 = .ok (.istore_n 2, 1) := by decide +kernel
theorem dX12_sizeOf_4 : decode cX12_sizeOf 4 = .ok (.iload_n 2, 1) := by decide +kernel
theorem dX12_sizeOf_5 : decode cX12_sizeOf 5 = .ok (.ifCond .le 16, 3) := by decide +kernel
theorem dX12_sizeOf_8 : decode cX12_sizeOf 8 = .ok (.iload_n 1, 1) := by decide +kernel
theorem dX12_sizeOf_9 : decode cX12_sizeOf 9 = .ok (.iload_n 2, 1) := by decide +kernel
theorem dX12_sizeOf_10 : decode cX12_sizeOf 10 = .ok (.iconst 1, 1) := by decide +kernel
theorem dX12_sizeOf_11 : decode cX12_sizeOf 11 = .ok (.iand, 1) := by decide +kernel
theorem dX12_sizeOf_12 : decode cX12_sizeOf 12 = .ok (.iadd, 1) := by decide +kernel
theorem dX12_sizeOf_13 : decode cX12_sizeOf 13 = .ok (.istore_n 1, 1) := by decide +kernel
theorem dX12_sizeOf_14 : decode cX12_sizeOf 14 = .ok (.iload_n 2, 1) := by decide +kernel
theorem dX12_sizeOf_15 : decode cX12_sizeOf 15 = .ok (.iconst 1, 1) := by decide +kernel
theorem dX12_sizeOf_16 : decode cX12_sizeOf 16 = .ok (.ishr, 1) := by decide +kernel
theorem dX12_sizeOf_17 : decode cX12_sizeOf 17 = .ok (.istore_n 2, 1) := by decide +kernel
theorem dX12_sizeOf_18 : decode cX12_sizeOf 18 = .ok (.goto (-14), 3) := by decide +kernel
theorem dX12_sizeOf_21 : decode cX12_sizeOf 21 = .ok (.iload_n 1, 1) := by decide +kernel
theorem dX12_sizeOf_22 : decode cX12_sizeOf 22 = .ok (.ireturn, 1) := by decide +kernel
theorem dX12_apart_0 : decode cX12_apart 0 = .ok (.aload_n 0, 1) := by decide +kernel
theorem dX12_apart_1 : decode cX12_apart 1 = .ok (.iload_n 1, 1) := by decide +kernel
theorem dX12_apart_2 : decode cX12_apart 2 = .ok (.iload_n 2, 1) := by decide +kernel
theorem dX12_apart_3 : decode cX12_apart 3 = .ok (.invokevirtual 155, 3) := by decide +kernel
theorem dX12_apart_6 : decode cX12_apart 6 = .ok (.ifCond .ne 6, 3) := by decide +kernel
theorem dX12_apart_9 : decode cX12_apart 9 = .ok (.bipush (-2), 2) := by decide +kernel
theorem dX12_apart_11 : decode cX12_apart 11 = .ok (.ireturn, 1) := by decide +kernel
theorem dX12_apart_12 : decode cX12_apart 12 = .ok (.aload_n 0, 1) := by decide +kernel
theorem dX12_apart_13 : decode cX12_apart 13 = .ok (.iconst 0, 1) := by decide +kernel
theorem dX12_apart_14 : decode cX12_apart 14 = .ok (.invokevirtual 164, 3) := by decide +kernel
theorem dX12_apart_17 : decode cX12_apart 17 = .ok (.ldc 167, 2) := by decide +kernel
theorem dX12_apart_19 : decode cX12_apart 19 = .ok (.istore_n 3, 1) := by decide +kernel
theorem dX12_apart_20 : decode cX12_apart 20 = .ok (.iconst 0, 1) := by decide +kernel
theorem dX12_apart_21 : decode cX12_apart 21 = .ok (.istore 4, 2) := by decide +kernel
theorem dX12_apart_23 : decode cX12_apart 23 = .ok (.iload 4, 2) := by decide +kernel
theorem dX12_apart_25 : decode cX12_apart 25 = .ok (.iconst 1, 1) := by decide +kernel
theorem dX12_apart_26 : decode cX12_apart 26 = .ok (.aload_n 0, 1) := by decide +kernel
theorem dX12_apart_27 : decode cX12_apart 27 = .ok (.getfield 7, 3) := by decide +kernel
theorem dX12_apart_30 : decode cX12_apart 30 = .ok (.iconst 1, 1) := by decide +kernel
theorem dX12_apart_31 : decode cX12_apart 31 = .ok (.iaload, 1) := by decide +kernel
theorem dX12_apart_32 : decode cX12_apart 32 = .ok (.ishl, 1) := by decide +kernel
theorem dX12_apart_33 : decode cX12_apart 33 = .ok (.if_icmp .ge 65, 3) := by decide +kernel
theorem dX12_apart_36 : decode cX12_apart 36 = .ok (.iload 4, 2) := by decide +kernel
theorem dX12_apart_38 : decode cX12_apart 38 = .ok (.iload_n 1, 1) := by decide +kernel
theorem dX12_apart_39 : decode cX12_apart 39 = .ok (.ishr, 1) := by decide +kernel
theorem dX12_apart_40 : decode cX12_apart 40 = .ok (.iconst 1, 1) := by decide +kernel
theorem dX12_apart_41 : decode cX12_apart 41 = .ok (.iand, 1) := by decide +kernel
theorem dX12_apart_42 : decode cX12_apart 42 = .ok (.ifCond .ne 16, 3) := by decide +kernel
theorem dX12_apart_45 : decode cX12_apart 45 = .ok (.iload 4, 2) := by decide +kernel
theorem dX12_apart_47 : decode cX12_apart 47 = .ok (.iload_n 2, 1) := by decide +kernel
theorem dX12_apart_48 : decode cX12_apart 48 = .ok (.ishr, 1) := by decide +kernel
theorem dX12_apart_49 : decode cX12_apart 49 = .ok (.iconst 1, 1) := by decide +kernel
theorem dX12_apart_50 : decode cX12_apart 50 = .ok (.iand, 1) := by decide +kernel
theorem dX12_apart_51 : decode cX12_apart 51 = .ok (.ifCond .ne 7, 3) := by decide +kernel
theorem dX12_apart_54 : decode cX12_apart 54 = .ok (.iconst 1, 1) := by decide +kernel
theorem dX12_apart_55 : decode cX12_apart 55 = .ok (.goto 4, 3) := by decide +kernel
theorem dX12_apart_58 : decode cX12_apart 58 = .ok (.iconst 0, 1) := by decide +kernel
theorem dX12_apart_59 : decode cX12_apart 59 = .ok (.istore 5, 2) := by decide +kernel
theorem dX12_apart_61 : decode cX12_apart 61 = .ok (.iload 5, 2) := by decide +kernel
theorem dX12_apart_63 : decode cX12_apart 63 = .ok (.ifCond .eq 29, 3) := by decide +kernel
theorem dX12_apart_66 : decode cX12_apart 66 = .ok (.iload 4, 2) := by decide +kernel
theorem dX12_apart_68 : decode cX12_apart 68 = .ok (.invokestatic 181, 3) := by decide +kernel
theorem dX12_apart_71 : decode cX12_apart 71 = .ok (.iload_n 3, 1) := by decide +kernel
theorem dX12_apart_72 : decode cX12_apart 72 = .ok (.if_icmp .ge 20, 3) := by decide +kernel
theorem dX12_apart_75 : decode cX12_apart 75 = .ok (.aload_n 0, 1) := by decide +kernel
theorem dX12_apart_76 : decode cX12_apart 76 = .ok (.iload_n 1, 1) := by decide +kernel
theorem dX12_apart_77 : decode cX12_apart 77 = .ok (.iload_n 2, 1) := by decide +kernel
theorem dX12_apart_78 : decode cX12_apart 78 = .ok (.iload 4, 2) := by decide +kernel
theorem dX12_apart_80 : decode cX12_apart 80 = .ok (.invokevirtual 184, 3) := by decide +kernel
theorem dX12_apart_83 : decode cX12_apart 83 = .ok (.ifCond .ne 9, 3) := by decide +kernel
theorem dX12_apart_86 : decode cX12_apart 86 = .ok (.iload 4, 2) := by decide +kernel
theorem dX12_apart_88 : decode cX12_apart 88 = .ok (.invokestatic 181, 3) := by decide +kernel
theorem dX12_apart_91 : decode cX12_apart 91 = .ok (.istore_n 3, 1) := by decide +kernel
theorem dX12_apart_92 : decode cX12_apart 92 = .ok (.iinc 4 1, 3) := by decide +kernel
theorem dX12_apart_95 : decode cX12_apart 95 = .ok (.goto (-72), 3) := by decide +kernel
theorem dX12_apart_98 : decode cX12_apart 98 = .ok (.iload_n 3, 1) := by decide +kernel
theorem dX12_apart_99 : decode cX12_apart 99 = .ok (.aload_n 0, 1) := by decide +kernel
theorem dX12_apart_100 : decode cX12_apart 100 = .ok (.getfield 29, 3) := by decide +kernel
theorem dX12_apart_103 : decode cX12_apart 103 = .ok (.bipush 8, 2) := by decide +kernel
theorem dX12_apart_105 : decode cX12_apart 105 = .ok (.iload_n 2, 1) := by decide +kernel
theorem dX12_apart_106 : decode cX12_apart 106 = .ok (.imul, 1) := by decide +kernel
theorem dX12_apart_107 : decode cX12_apart 107 = .ok (.iload_n 1, 1) := by decide +kernel
theorem dX12_apart_108 : decode cX12_apart 108 = .ok (.iadd, 1) := by decide +kernel
theorem dX12_apart_109 : decode cX12_apart 109 = .ok (.baload, 1) := by decide +kernel
