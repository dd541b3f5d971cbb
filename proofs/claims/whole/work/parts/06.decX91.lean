theorem dX9_ring_52 : decode cX9_ring 52 = .ok (.aload_n 0, 1) := by decide +kernel
theorem dX9_ring_53 : decode cX9_ring 53 = .ok (.iload_n 1, 1) := by decide +kernel
theorem dX9_ring_54 : decode cX9_ring 54 = .ok (.bipush 8, 2) := by decide +kernel
theorem dX9_ring_56 : decode cX9_ring 56 = .ok (.iconst (-1), 1) := by decide +kernel
theorem dX9_ring_57 : decode cX9_ring 57 = .ok (.invokevirtual 334, 3) := by decide +kernel
theorem dX9_ring_60 : decode cX9_ring 60 = .ok (.iinc 1 1, 3) := by decide +kernel
theorem dX9_ring_63 : decode cX9_ring 63 = .ok (.goto (-21), 3) := by decide +kernel
theorem dX9_ring_66 : decode cX9_ring 66 = .ok (.aload_n 0, 1) := by decide +kernel
theorem dX9_ring_67 : decode cX9_ring 67 = .ok (.iconst 4, 1) := by decide +kernel
theorem dX9_ring_68 : decode cX9_ring 68 = .ok (.iconst (-1), 1) := by decide +kernel
theorem dX9_ring_69 : decode cX9_ring 69 = .ok (.iconst (-1), 1) := by decide +kernel
theorem dX9_ring_70 : decode cX9_ring 70 = .ok (.invokevirtual 342, 3) := by decide +kernel
theorem dX9_ring_73 : decode cX9_ring 73 = .ok (.aload_n 0, 1) := by decide +kernel
theorem dX9_ring_74 : decode cX9_ring 74 = .ok (.getfield 7, 3) := by decide +kernel
theorem dX9_ring_77 : decode cX9_ring 77 = .ok (.iconst 4, 1) := by decide +kernel
theorem dX9_ring_78 : decode cX9_ring 78 = .ok (.iaload, 1) := by decide +kernel
theorem dX9_ring_79 : decode cX9_ring 79 = .ok (.aload_n 0, 1) := by decide +kernel
theorem dX9_ring_80 : decode cX9_ring 80 = .ok (.getfield 7, 3) := by decide +kernel
theorem dX9_ring_83 : decode cX9_ring 83 = .ok (.iconst 5, 1) := by decide +kernel
theorem dX9_ring_84 : decode cX9_ring 84 = .ok (.iaload, 1) := by decide +kernel
theorem dX9_ring_85 : decode cX9_ring 85 = .ok (.iadd, 1) := by decide +kernel
theorem dX9_ring_86 : decode cX9_ring 86 = .ok (.ireturn, 1) := by decide +kernel
theorem dX9_deletesLatest_0 : decode cX9_deletesLatest 0 = .ok (.iconst (-1), 1) := by decide +kernel
theorem dX9_deletesLatest_1 : decode cX9_deletesLatest 1 = .ok (.istore_n 2, 1) := by decide +kernel
theorem dX9_deletesLatest_2 : decode cX9_deletesLatest 2 = .ok (.iconst 0, 1) := by decide +kernel
theorem dX9_deletesLatest_3 : decode cX9_deletesLatest 3 = .ok (.istore_n 3, 1) := by decide +kernel
theorem dX9_deletesLatest_4 : decode cX9_deletesLatest 4 = .ok (.iload_n 3, 1) := by decide +kernel
theorem dX9_deletesLatest_5 : decode cX9_deletesLatest 5 = .ok (.aload_n 0, 1) := by decide +kernel
theorem dX9_deletesLatest_6 : decode cX9_deletesLatest 6 = .ok (.getfield 7, 3) := by decide +kernel
theorem dX9_deletesLatest_9 : decode cX9_deletesLatest 9 = .ok (.iconst 3, 1) := by decide +kernel
theorem dX9_deletesLatest_10 : decode cX9_deletesLatest 10 = .ok (.iaload, 1) := by decide +kernel
theorem dX9_deletesLatest_11 : decode cX9_deletesLatest 11 = .ok (.if_icmp .ge 29, 3) := by decide +kernel
theorem dX9_deletesLatest_14 : decode cX9_deletesLatest 14 = .ok (.aload_n 0, 1) := by decide +kernel
theorem dX9_deletesLatest_15 : decode cX9_deletesLatest 15 = .ok (.iload_n 3, 1) := by decide +kernel
theorem dX9_deletesLatest_16 : decode cX9_deletesLatest 16 = .ok (.iconst 0, 1) := by decide +kernel
theorem dX9_deletesLatest_17 : decode cX9_deletesLatest 17 = .ok (.invokevirtual 76, 3) := by decide +kernel
theorem dX9_deletesLatest_20 : decode cX9_deletesLatest 20 = .ok (.iload_n 1, 1) := by decide +kernel
theorem dX9_deletesLatest_21 : decode cX9_deletesLatest 21 = .ok (.if_icmp .ne 13, 3) := by decide +kernel
theorem dX9_deletesLatest_24 : decode cX9_deletesLatest 24 = .ok (.aload_n 0, 1) := by decide +kernel
theorem dX9_deletesLatest_25 : decode cX9_deletesLatest 25 = .ok (.iload_n 3, 1) := by decide +kernel
theorem dX9_deletesLatest_26 : decode cX9_deletesLatest 26 = .ok (.invokevirtual 354, 3) := by decide +kernel
theorem dX9_deletesLatest_29 : decode cX9_deletesLatest 29 = .ok (.ifCond .eq 5, 3) := by decide +kernel
theorem dX9_deletesLatest_32 : decode cX9_deletesLatest 32 = .ok (.iload_n 3, 1) := by decide +kernel
theorem dX9_deletesLatest_33 : decode cX9_deletesLatest 33 = .ok (.istore_n 2, 1) := by decide +kernel
theorem dX9_deletesLatest_34 : decode cX9_deletesLatest 34 = .ok (.iinc 3 1, 3) := by decide +kernel
theorem dX9_deletesLatest_37 : decode cX9_deletesLatest 37 = .ok (.goto (-33), 3) := by decide +kernel
theorem dX9_deletesLatest_40 : decode cX9_deletesLatest 40 = .ok (.iload_n 2, 1) := by decide +kernel
theorem dX9_deletesLatest_41 : decode cX9_deletesLatest 41 = .ok (.iconst (-1), 1) := by decide +kernel
theorem dX9_deletesLatest_42 : decode cX9_deletesLatest 42 = .ok (.if_icmp .eq 8, 3) := by decide +kernel
theorem dX9_deletesLatest_45 : decode cX9_deletesLatest 45 = .ok (.aload_n 0, 1) := by decide +kernel
theorem dX9_deletesLatest_46 : decode cX9_deletesLatest 46 = .ok (.iload_n 2, 1) := by decide +kernel
theorem dX9_deletesLatest_47 : decode cX9_deletesLatest 47 = .ok (.invokevirtual 357, 3) := by decide +kernel
theorem dX9_deletesLatest_50 : decode cX9_deletesLatest 50 = .ok (.return_, 1) := by decide +kernel
theorem dX9_doesSaying_0 : decode cX9_doesSaying 0 = .ok (.aload_n 0, 1) := by decide +kernel
theorem dX9_doesSaying_1 : decode cX9_doesSaying 1 = .ok (.getfield 7, 3) := by decide +kernel
theorem dX9_doesSaying_4 : decode cX9_doesSaying 4 = .ok (.iload_n 1, 1) := by decide +kernel
theorem dX9_doesSaying_5 : decode cX9_doesSaying 5 = .ok (.iconst 2, 1) := by decide +kernel
theorem dX9_doesSaying_6 : decode cX9_doesSaying 6 = .ok (.iadd, 1) := by decide +kernel
theorem dX9_doesSaying_7 : decode cX9_doesSaying 7 = .ok (.iaload, 1) := by decide +kernel
theorem dX9_doesSaying_8 : decode cX9_doesSaying 8 = .ok (.ifCond .ne 18, 3) := by decide +kernel
theorem dX9_doesSaying_11 : decode cX9_doesSaying 11 = .ok (.aload_n 0, 1) := by decide +kernel
theorem dX9_doesSaying_12 : decode cX9_doesSaying 12 = .ok (.aload_n 0, 1) := by decide +kernel
theorem dX9_doesSaying_13 : decode cX9_doesSaying 13 = .ok (.getfield 7, 3) := by decide +kernel
theorem dX9_doesSaying_16 : decode cX9_doesSaying 16 = .ok (.iload_n 1, 1) := by decide +kernel
theorem dX9_doesSaying_17 : decode cX9_doesSaying 17 = .ok (.iconst 1, 1) := by decide +kernel
theorem dX9_doesSaying_18 : decode cX9_doesSaying 18 = .ok (.iadd, 1) := by decide +kernel
theorem dX9_doesSaying_19 : decode cX9_doesSaying 19 = .ok (.iaload, 1) := by decide +kernel
theorem dX9_doesSaying_20 : decode cX9_doesSaying 20 = .ok (.invokevirtual 361, 3) := by decide +kernel
theorem dX9_doesSaying_23 : decode cX9_doesSaying 23 = .ok (.goto 51, 3) := by decide +kernel
theorem dX9_doesSaying_26 : decode cX9_doesSaying 26 = .ok (.aload_n 0, 1) := by decide +kernel
theorem dX9_doesSaying_27 : decode cX9_doesSaying 27 = .ok (.getfield 7, 3) := by decide +kernel
theorem dX9_doesSaying_30 : decode cX9_doesSaying 30 = .ok (.iconst 3, 1) := by decide +kernel
theorem dX9_doesSaying_31 : decode cX9_doesSaying 31 = .ok (.iaload, 1) := by decide +kernel
theorem dX9_doesSaying_32 : decode cX9_doesSaying 32 = .ok (.bipush 60, 2) := by decide +kernel
theorem dX9_doesSaying_34 : decode cX9_doesSaying 34 = .ok (.if_icmp .ge 40, 3) := by decide +kernel
theorem dX9_doesSaying_37 : decode cX9_doesSaying 37 = .ok (.aload_n 0, 1) := by decide +kernel
theorem dX9_doesSaying_38 : decode cX9_doesSaying 38 = .ok (.aload_n 0, 1) := by decide +kernel
theorem dX9_doesSaying_39 : decode cX9_doesSaying 39 = .ok (.getfield 7, 3) := by decide +kernel
theorem dX9_doesSaying_42 : decode cX9_doesSaying 42 = .ok (.iload_n 1, 1) := by decide +kernel
theorem dX9_doesSaying_43 : decode cX9_doesSaying 43 = .ok (.iconst 1, 1) := by decide +kernel
theorem dX9_doesSaying_44 : decode cX9_doesSaying 44 = .ok (.iadd, 1) := by decide +kernel
theorem dX9_doesSaying_45 : decode cX9_doesSaying 45 = .ok (.iaload, 1) := by decide +kernel
theorem dX9_doesSaying_46 : decode cX9_doesSaying 46 = .ok (.aload_n 0, 1) := by decide +kernel
theorem dX9_doesSaying_47 : decode cX9_doesSaying 47 = .ok (.getfield 7, 3) := by decide +kernel
theorem dX9_doesSaying_50 : decode cX9_doesSaying 50 = .ok (.iload_n 1, 1) := by decide +kernel
theorem dX9_doesSaying_51 : decode cX9_doesSaying 51 = .ok (.iconst 2, 1) := by decide +kernel
theorem dX9_doesSaying_52 : decode cX9_doesSaying 52 = .ok (.iadd, 1) := by decide +kernel
theorem dX9_doesSaying_53 : decode cX9_doesSaying 53 = .ok (.iaload, 1) := by decide +kernel
theorem dX9_doesSaying_54 : decode cX9_doesSaying 54 = .ok (.aload_n 0, 1) := by decide +kernel
theorem dX9_doesSaying_55 : decode cX9_doesSaying 55 = .ok (.getfield 7, 3) := by decide +kernel
theorem dX9_doesSaying_58 : decode cX9_doesSaying 58 = .ok (.iload_n 1, 1) := by decide +kernel
theorem dX9_doesSaying_59 : decode cX9_doesSaying 59 = .ok (.iconst 3, 1) := by decide +kernel
theorem dX9_doesSaying_60 : decode cX9_doesSaying 60 = .ok (.iadd, 1) := by decide +kernel
theorem dX9_doesSaying_61 : decode cX9_doesSaying 61 = .ok (.iaload, 1) := by decide +kernel
theorem dX9_doesSaying_62 : decode cX9_doesSaying 62 = .ok (.aload_n 0, 1) := by decide +kernel
theorem dX9_doesSaying_63 : decode cX9_doesSaying 63 = .ok (.getfield 7, 3) := by decide +kernel
theorem dX9_doesSaying_66 : decode cX9_doesSaying 66 = .ok (.iload_n 1, 1) := by decide +kernel
theorem dX9_doesSaying_67 : decode cX9_doesSaying 67 = .ok (.iconst 4, 1) := by decide +kernel
theorem dX9_doesSaying_68 : decode cX9_doesSaying 68 = .ok (.iadd, 1) := by decide +kernel
theorem dX9_doesSaying_69 : decode cX9_doesSaying 69 = .ok (.iaload, 1) := by decide +kernel
theorem dX9_doesSaying_70 : decode cX9_doesSaying 70 = .ok (.invokevirtual 348, 3) := by decide +kernel
theorem dX9_doesSaying_73 : decode cX9_doesSaying 73 = .ok (.pop, 1) := by decide +kernel
theorem dX9_doesSaying_74 : decode cX9_doesSaying 74 = .ok (.return_, 1) := by decide +kernel
theorem dX9_reads0_0 : decode cX9_reads0 0 = .ok (.aload_n 0, 1) := by decide +kernel
theorem dX9_reads0_1 : decode cX9_reads0 1 = .ok (.iload_n 1, 1) := by decide +kernel
theorem dX9_reads0_2 : decode cX9_reads0 2 = .ok (.invokevirtual 320, 3) := by decide +kernel
theorem dX9_reads0_5 : decode cX9_reads0 5 = .ok (.istore_n 2, 1) := by decide +kernel
theorem dX9_reads0_6 : decode cX9_reads0 6 = .ok (.aload_n 0, 1) := by decide +kernel
theorem dX9_reads0_7 : decode cX9_reads0 7 = .ok (.iload_n 1, 1) := by decide +kernel
theorem dX9_reads0_8 : decode cX9_reads0 8 = .ok (.iconst 2, 1) := by decide +kernel
theorem dX9_reads0_9 : decode cX9_reads0 9 = .ok (.aload_n 0, 1) := by decide +kernel
theorem dX9_reads0_10 : decode cX9_reads0 10 = .ok (.getfield 7, 3) := by decide +kernel
theorem dX9_reads0_13 : decode cX9_reads0 13 = .ok (.iconst 0, 1) := by decide +kernel
theorem dX9_reads0_14 : decode cX9_reads0 14 = .ok (.iaload, 1) := by decide +kernel
theorem dX9_reads0_15 : decode cX9_reads0 15 = .ok (.invokevirtual 334, 3) := by decide +kernel
theorem dX9_reads0_18 : decode cX9_reads0 18 = .ok (.aload_n 0, 1) := by decide +kernel
theorem dX9_reads0_19 : decode cX9_reads0 19 = .ok (.iconst 1, 1) := by decide +kernel
theorem dX9_reads0_20 : decode cX9_reads0 20 = .ok (.iload_n 2, 1) := by decide +kernel
theorem dX9_reads0_21 : decode cX9_reads0 21 = .ok (.iload_n 1, 1) := by decide +kernel
theorem dX9_reads0_22 : decode cX9_reads0 22 = .ok (.invokevirtual 342, 3) := by decide +kernel
theorem dX9_reads0_25 : decode cX9_reads0 25 = .ok (.aload_n 0, 1) := by decide +kernel
theorem dX9_reads0_26 : decode cX9_reads0 26 = .ok (.iload_n 1, 1) := by decide +kernel
theorem dX9_reads0_27 : decode cX9_reads0 27 = .ok (.invokevirtual 364, 3) := by decide +kernel
theorem dX9_reads0_30 : decode cX9_reads0 30 = .ok (.aload_n 0, 1) := by decide +kernel
theorem dX9_reads0_31 : decode cX9_reads0 31 = .ok (.getfield 7, 3) := by decide +kernel
theorem dX9_reads0_34 : decode cX9_reads0 34 = .ok (.iconst 4, 1) := by decide +kernel
theorem dX9_reads0_35 : decode cX9_reads0 35 = .ok (.iload_n 2, 1) := by decide +kernel
theorem dX9_reads0_36 : decode cX9_reads0 36 = .ok (.iadd, 1) := by decide +kernel
theorem dX9_reads0_37 : decode cX9_reads0 37 = .ok (.aload_n 0, 1) := by decide +kernel
theorem dX9_reads0_38 : decode cX9_reads0 38 = .ok (.getfield 7, 3) := by decide +kernel
theorem dX9_reads0_41 : decode cX9_reads0 41 = .ok (.iconst 4, 1) := by decide +kernel
theorem dX9_reads0_42 : decode cX9_reads0 42 = .ok (.iload_n 2, 1) := by decide +kernel
theorem dX9_reads0_43 : decode cX9_reads0 43 = .ok (.iadd, 1) := by decide +kernel
theorem dX9_reads0_44 : decode cX9_reads0 44 = .ok (.iaload, 1) := by decide +kernel
theorem dX9_reads0_45 : decode cX9_reads0 45 = .ok (.aload_n 0, 1) := by decide +kernel
theorem dX9_reads0_46 : decode cX9_reads0 46 = .ok (.invokevirtual 367, 3) := by decide +kernel
theorem dX9_reads0_49 : decode cX9_reads0 49 = .ok (.iadd, 1) := by decide +kernel
theorem dX9_reads0_50 : decode cX9_reads0 50 = .ok (.iconst 0, 1) := by decide +kernel
theorem dX9_reads0_51 : decode cX9_reads0 51 = .ok (.bipush 99, 2) := by decide +kernel
theorem dX9_reads0_53 : decode cX9_reads0 53 = .ok (.invokestatic 311, 3) := by decide +kernel
theorem dX9_reads0_56 : decode cX9_reads0 56 = .ok (.iastore, 1) := by decide +kernel
theorem dX9_reads0_57 : decode cX9_reads0 57 = .ok (.aload_n 0, 1) := by decide +kernel
theorem dX9_reads0_58 : decode cX9_reads0 58 = .ok (.iload_n 1, 1) := by decide +kernel
theorem dX9_reads0_59 : decode cX9_reads0 59 = .ok (.invokevirtual 364, 3) := by decide +kernel
theorem dX9_reads0_62 : decode cX9_reads0 62 = .ok (.aload_n 0, 1) := by decide +kernel
theorem dX9_reads0_63 : decode cX9_reads0 63 = .ok (.invokevirtual 370, 3) := by decide +kernel
theorem dX9_reads0_66 : decode cX9_reads0 66 = .ok (.istore_n 3, 1) := by decide +kernel
theorem dX9_reads0_67 : decode cX9_reads0 67 = .ok (.aload_n 0, 1) := by decide +kernel
theorem dX9_reads0_68 : decode cX9_reads0 68 = .ok (.getfield 330, 3) := by decide +kernel
theorem dX9_reads0_71 : decode cX9_reads0 71 = .ok (.ifCond .eq 22, 3) := by decide +kernel
theorem dX9_reads0_74 : decode cX9_reads0 74 = .ok (.aload_n 0, 1) := by decide +kernel
theorem dX9_reads0_75 : decode cX9_reads0 75 = .ok (.sipush 1000, 3) := by decide +kernel
theorem dX9_reads0_78 : decode cX9_reads0 78 = .ok (.invokevirtual 373, 3) := by decide +kernel
theorem dX9_reads0_81 : decode cX9_reads0 81 = .ok (.iload_n 3, 1) := by decide +kernel
theorem dX9_reads0_82 : decode cX9_reads0 82 = .ok (.if_icmp .ge 7, 3) := by decide +kernel
theorem dX9_reads0_85 : decode cX9_reads0 85 = .ok (.iconst 1, 1) := by decide +kernel
theorem dX9_reads0_86 : decode cX9_reads0 86 = .ok (.goto 19, 3) := by decide +kernel
theorem dX9_reads0_89 : decode cX9_reads0 89 = .ok (.iconst 0, 1) := by decide +kernel
theorem dX9_reads0_90 : decode cX9_reads0 90 = .ok (.goto 15, 3) := by decide +kernel
theorem dX9_reads0_93 : decode cX9_reads0 93 = .ok (.iload_n 3, 1) := by decide +kernel
theorem dX9_reads0_94 : decode cX9_reads0 94 = .ok (.sipush 500, 3) := by decide +kernel
theorem dX9_reads0_97 : decode cX9_reads0 97 = .ok (.if_icmp .lt 7, 3) := by decide +kernel
theorem dX9_reads0_100 : decode cX9_reads0 100 = .ok (.iconst 1, 1) := by decide +kernel
theorem dX9_reads0_101 : decode cX9_reads0 101 = .ok (.goto 4, 3) := by decide +kernel
theorem dX9_reads0_104 : decode cX9_reads0 104 = .ok (.iconst 0, 1) := by decide +kernel
theorem dX9_reads0_105 : decode cX9_reads0 105 = .ok (.istore 4, 2) := by decide +kernel
theorem dX9_reads0_107 : decode cX9_reads0 107 = .ok (.iload 4, 2) := by decide +kernel
theorem dX9_reads0_109 : decode cX9_reads0 109 = .ok (.ifCond .eq 36, 3) := by decide +kernel
theorem dX9_reads0_112 : decode cX9_reads0 112 = .ok (.aload_n 0, 1) := by decide +kernel
theorem dX9_reads0_113 : decode cX9_reads0 113 = .ok (.iload_n 1, 1) := by decide +kernel
theorem dX9_reads0_114 : decode cX9_reads0 114 = .ok (.bipush 8, 2) := by decide +kernel
theorem dX9_reads0_116 : decode cX9_reads0 116 = .ok (.aload_n 0, 1) := by decide +kernel
theorem dX9_reads0_117 : decode cX9_reads0 117 = .ok (.getfield 7, 3) := by decide +kernel
theorem dX9_reads0_120 : decode cX9_reads0 120 = .ok (.iconst 0, 1) := by decide +kernel
theorem dX9_reads0_121 : decode cX9_reads0 121 = .ok (.iaload, 1) := by decide +kernel
theorem dX9_reads0_122 : decode cX9_reads0 122 = .ok (.iload_n 2, 1) := by decide +kernel
theorem dX9_reads0_123 : decode cX9_reads0 123 = .ok (.aload_n 0, 1) := by decide +kernel
theorem dX9_reads0_124 : decode cX9_reads0 124 = .ok (.getfield 44, 3) := by decide +kernel
theorem dX9_reads0_127 : decode cX9_reads0 127 = .ok (.if_icmp .ne 10, 3) := by decide +kernel
theorem dX9_reads0_130 : decode cX9_reads0 130 = .ok (.aload_n 0, 1) := by decide +kernel
theorem dX9_reads0_131 : decode cX9_reads0 131 = .ok (.getfield 376, 3) := by decide +kernel
theorem dX9_reads0_134 : decode cX9_reads0 134 = .ok (.goto 7, 3) := by decide +kernel
theorem dX9_reads0_137 : decode cX9_reads0 137 = .ok (.aload_n 0, 1) := by decide +kernel
theorem dX9_reads0_138 : decode cX9_reads0 138 = .ok (.invokevirtual 379, 3) := by decide +kernel
theorem dX9_reads0_141 : decode cX9_reads0 141 = .ok (.iadd, 1) := by decide +kernel
theorem dX9_reads0_142 : decode cX9_reads0 142 = .ok (.invokevirtual 334, 3) := by decide +kernel
theorem dX9_reads0_145 : decode cX9_reads0 145 = .ok (.return_, 1) := by decide +kernel
theorem dX9_answers_0 : decode cX9_answers 0 = .ok (.aload_n 0, 1) := by decide +kernel
theorem dX9_answers_1 : decode cX9_answers 1 = .ok (.iload_n 1, 1) := by decide +kernel
theorem dX9_answers_2 : decode cX9_answers 2 = .ok (.invokevirtual 320, 3) := by decide +kernel
theorem dX9_answers_5 : decode cX9_answers 5 = .ok (.istore_n 2, 1) := by decide +kernel
theorem dX9_answers_6 : decode cX9_answers 6 = .ok (.aload_n 0, 1) := by decide +kernel
theorem dX9_answers_7 : decode cX9_answers 7 = .ok (.iload_n 1, 1) := by decide +kernel
theorem dX9_answers_8 : decode cX9_answers 8 = .ok (.bipush 8, 2) := by decide +kernel
theorem dX9_answers_10 : decode cX9_answers 10 = .ok (.iconst (-1), 1) := by decide +kernel
theorem dX9_answers_11 : decode cX9_answers 11 = .ok (.invokevirtual 334, 3) := by decide +kernel
theorem dX9_answers_14 : decode cX9_answers 14 = .ok (.aload_n 0, 1) := by decide +kernel
theorem dX9_answers_15 : decode cX9_answers 15 = .ok (.getfield 7, 3) := by decide +kernel
theorem dX9_answers_18 : decode cX9_answers 18 = .ok (.iconst 3, 1) := by decide +kernel
theorem dX9_answers_19 : decode cX9_answers 19 = .ok (.iaload, 1) := by decide +kernel
theorem dX9_answers_20 : decode cX9_answers 20 = .ok (.bipush 60, 2) := by decide +kernel
theorem dX9_answers_22 : decode cX9_answers 22 = .ok (.if_icmp .ne 4, 3) := by decide +kernel
theorem dX9_answers_25 : decode cX9_answers 25 = .ok (.return_, 1) := by decide +kernel
theorem dX9_answers_26 : decode cX9_answers 26 = .ok (.aload_n 0, 1) := by decide +kernel
theorem dX9_answers_27 : decode cX9_answers 27 = .ok (.iload_n 1, 1) := by decide +kernel
theorem dX9_answers_28 : decode cX9_answers 28 = .ok (.invokevirtual 364, 3) := by decide +kernel
theorem dX9_answers_31 : decode cX9_answers 31 = .ok (.aload_n 0, 1) := by decide +kernel
theorem dX9_answers_32 : decode cX9_answers 32 = .ok (.invokevirtual 382, 3) := by decide +kernel
theorem dX9_answers_35 : decode cX9_answers 35 = .ok (.istore_n 3, 1) := by decide +kernel
theorem dX9_answers_36 : decode cX9_answers 36 = .ok (.aload_n 0, 1) := by decide +kernel
theorem dX9_answers_37 : decode cX9_answers 37 = .ok (.invokevirtual 385, 3) := by decide +kernel
theorem dX9_answers_40 : decode cX9_answers 40 = .ok (.istore 4, 2) := by decide +kernel
theorem dX9_answers_42 : decode cX9_answers 42 = .ok (.aload_n 0, 1) := by decide +kernel
theorem dX9_answers_43 : decode cX9_answers 43 = .ok (.iload_n 2, 1) := by decide +kernel
theorem dX9_answers_44 : decode cX9_answers 44 = .ok (.iload_n 3, 1) := by decide +kernel
theorem dX9_answers_45 : decode cX9_answers 45 = .ok (.iload 4, 2) := by decide +kernel
theorem dX9_answers_47 : decode cX9_answers 47 = .ok (.aload_n 0, 1) := by decide +kernel
theorem dX9_answers_48 : decode cX9_answers 48 = .ok (.getfield 7, 3) := by decide +kernel
theorem dX9_answers_51 : decode cX9_answers 51 = .ok (.iconst 4, 1) := by decide +kernel
theorem dX9_answers_52 : decode cX9_answers 52 = .ok (.iload_n 2, 1) := by decide +kernel
theorem dX9_answers_53 : decode cX9_answers 53 = .ok (.iadd, 1) := by decide +kernel
theorem dX9_answers_54 : decode cX9_answers 54 = .ok (.iaload, 1) := by decide +kernel
theorem dX9_answers_55 : decode cX9_answers 55 = .ok (.bipush 50, 2) := by decide +kernel
theorem dX9_answers_57 : decode cX9_answers 57 = .ok (.if_icmp .lt 7, 3) := by decide +kernel
theorem dX9_answers_60 : decode cX9_answers 60 = .ok (.iconst 1, 1) := by decide +kernel
theorem dX9_answers_61 : decode cX9_answers 61 = .ok (.goto 4, 3) := by decide +kernel
theorem dX9_answers_64 : decode cX9_answers 64 = .ok (.iconst 0, 1) := by decide +kernel
theorem dX9_answers_65 : decode cX9_answers 65 = .ok (.iload_n 1, 1) := by decide +kernel
theorem dX9_answers_66 : decode cX9_answers 66 = .ok (.invokevirtual 338, 3) := by decide +kernel
theorem dX9_answers_69 : decode cX9_answers 69 = .ok (.istore 5, 2) := by decide +kernel
theorem dX9_answers_71 : decode cX9_answers 71 = .ok (.aload_n 0, 1) := by decide +kernel
theorem dX9_answers_72 : decode cX9_answers 72 = .ok (.iconst 2, 1) := by decide +kernel
theorem dX9_answers_73 : decode cX9_answers 73 = .ok (.iload_n 2, 1) := by decide +kernel
theorem dX9_answers_74 : decode cX9_answers 74 = .ok (.iload 5, 2) := by decide +kernel
theorem dX9_answers_76 : decode cX9_answers 76 = .ok (.invokevirtual 342, 3) := by decide +kernel
theorem dX9_answers_79 : decode cX9_answers 79 = .ok (.aload_n 0, 1) := by decide +kernel
theorem dX9_answers_80 : decode cX9_answers 80 = .ok (.getfield 7, 3) := by decide +kernel
theorem dX9_answers_83 : decode cX9_answers 83 = .ok (.bipush 7, 2) := by decide +kernel
theorem dX9_answers_85 : decode cX9_answers 85 = .ok (.iload_n 2, 1) := by decide +kernel
theorem dX9_answers_86 : decode cX9_answers 86 = .ok (.isub, 1) := by decide +kernel
theorem dX9_answers_87 : decode cX9_answers 87 = .ok (.sipush 9999, 3) := by decide +kernel
theorem dX9_answers_90 : decode cX9_answers 90 = .ok (.aload_n 0, 1) := by decide +kernel
theorem dX9_answers_91 : decode cX9_answers 91 = .ok (.getfield 7, 3) := by decide +kernel
theorem dX9_answers_94 : decode cX9_answers 94 = .ok (.iconst 0, 1) := by decide +kernel
theorem dX9_answers_95 : decode cX9_answers 95 = .ok (.iaload, 1) := by decide +kernel
theorem dX9_answers_96 : decode cX9_answers 96 = .ok (.aload_n 0, 1) := by decide +kernel
theorem dX9_answers_97 : decode cX9_answers 97 = .ok (.iload_n 1, 1) := by decide +kernel
theorem dX9_answers_98 : decode cX9_answers 98 = .ok (.iconst 1, 1) := by decide +kernel
theorem dX9_answers_99 : decode cX9_answers 99 = .ok (.invokevirtual 76, 3) := by decide +kernel
theorem dX9_answers_102 : decode cX9_answers 102 = .ok (.isub, 1) := by decide +kernel
theorem dX9_answers_103 : decode cX9_answers 103 = .ok (.invokestatic 65, 3) := by decide +kernel
theorem dX9_answers_106 : decode cX9_answers 106 = .ok (.iastore, 1) := by decide +kernel
theorem dX9_answers_107 : decode cX9_answers 107 = .ok (.return_, 1) := by decide +kernel
theorem dX9_aMinute_0 : decode cX9_aMinute 0 = .ok (.aload_n 0, 1) := by decide +kernel
theorem dX9_aMinute_1 : decode cX9_aMinute 1 = .ok (.getfield 7, 3) := by decide +kernel
theorem dX9_aMinute_4 : decode cX9_aMinute 4 = .ok (.iconst 3, 1) := by decide +kernel
theorem dX9_aMinute_5 : decode cX9_aMinute 5 = .ok (.iaload, 1) := by decide +kernel
theorem dX9_aMinute_6 : decode cX9_aMinute 6 = .ok (.istore_n 1, 1) := by decide +kernel
theorem dX9_aMinute_7 : decode cX9_aMinute 7 = .ok (.iconst 0, 1) := by decide +kernel
theorem dX9_aMinute_8 : decode cX9_aMinute 8 = .ok (.istore_n 2, 1) := by decide +kernel
theorem dX9_aMinute_9 : decode cX9_aMinute 9 = .ok (.iload_n 2, 1) := by decide +kernel
theorem dX9_aMinute_10 : decode cX9_aMinute 10 = .ok (.aload_n 0, 1) := by decide +kernel
theorem dX9_aMinute_11 : decode cX9_aMinute 11 = .ok (.getfield 7, 3) := by decide +kernel
theorem dX9_aMinute_14 : decode cX9_aMinute 14 = .ok (.sipush 552, 3) := by decide +kernel
theorem dX9_aMinute_17 : decode cX9_aMinute 17 = .ok (.iaload, 1) := by decide +kernel
theorem dX9_aMinute_18 : decode cX9_aMinute 18 = .ok (.if_icmp .ge 41, 3) := by decide +kernel
theorem dX9_aMinute_21 : decode cX9_aMinute 21 = .ok (.aload_n 0, 1) := by decide +kernel
theorem dX9_aMinute_22 : decode cX9_aMinute 22 = .ok (.getfield 7, 3) := by decide +kernel
theorem dX9_aMinute_25 : decode cX9_aMinute 25 = .ok (.sipush 619, 3) := by decide +kernel
theorem dX9_aMinute_28 : decode cX9_aMinute 28 = .ok (.iconst 5, 1) := by decide +kernel
theorem dX9_aMinute_29 : decode cX9_aMinute 29 = .ok (.iload_n 2, 1) := by decide +kernel
theorem dX9_aMinute_30 : decode cX9_aMinute 30 = .ok (.imul, 1) := by decide +kernel
theorem dX9_aMinute_31 : decode cX9_aMinute 31 = .ok (.iadd, 1) := by decide +kernel
theorem dX9_aMinute_32 : decode cX9_aMinute 32 = .ok (.iaload, 1) := by decide +kernel
theorem dX9_aMinute_33 : decode cX9_aMinute 33 = .ok (.aload_n 0, 1) := by decide +kernel
theorem dX9_aMinute_34 : decode cX9_aMinute 34 = .ok (.getfield 7, 3) := by decide +kernel
theorem dX9_aMinute_37 : decode cX9_aMinute 37 = .ok (.iconst 0, 1) := by decide +kernel
theorem dX9_aMinute_38 : decode cX9_aMinute 38 = .ok (.iaload, 1) := by decide +kernel
theorem dX9_aMinute_39 : decode cX9_aMinute 39 = .ok (.if_icmp .ne 14, 3) := by decide +kernel
theorem dX9_aMinute_42 : decode cX9_aMinute 42 = .ok (.aload_n 0, 1) := by decide +kernel
theorem dX9_aMinute_43 : decode cX9_aMinute 43 = .ok (.sipush 619, 3) := by decide +kernel
theorem dX9_aMinute_46 : decode cX9_aMinute 46 = .ok (.iconst 5, 1) := by decide +kernel
theorem dX9_aMinute_47 : decode cX9_aMinute 47 = .ok (.iload_n 2, 1) := by decide +kernel
theorem dX9_aMinute_48 : decode cX9_aMinute 48 = .ok (.imul, 1) := by decide +kernel
theorem dX9_aMinute_49 : decode cX9_aMinute 49 = .ok (.iadd, 1) := by decide +kernel
theorem dX9_aMinute_50 : decode cX9_aMinute 50 = .ok (.invokevirtual 388, 3) := by decide +kernel
theorem dX9_aMinute_53 : decode cX9_aMinute 53 = .ok (.iinc 2 1, 3) := by decide +kernel
theorem dX9_aMinute_56 : decode cX9_aMinute 56 = .ok (.goto (-47), 3) := by decide +kernel
theorem dX9_aMinute_59 : decode cX9_aMinute 59 = .ok (.iconst 0, 1) := by decide +kernel
theorem dX9_aMinute_60 : decode cX9_aMinute 60 = .ok (.istore_n 2, 1) := by decide +kernel
theorem dX9_aMinute_61 : decode cX9_aMinute 61 = .ok (.iload_n 2, 1) := by decide +kernel
theorem dX9_aMinute_62 : decode cX9_aMinute 62 = .ok (.aload_n 0, 1) := by decide +kernel
theorem dX9_aMinute_63 : decode cX9_aMinute 63 = .ok (.getfield 7, 3) := by decide +kernel
theorem dX9_aMinute_66 : decode cX9_aMinute 66 = .ok (.iconst 3, 1) := by decide +kernel
theorem dX9_aMinute_67 : decode cX9_aMinute 67 = .ok (.iaload, 1) := by decide +kernel
theorem dX9_aMinute_68 : decode cX9_aMinute 68 = .ok (.if_icmp .ge 53, 3) := by decide +kernel
theorem dX9_aMinute_71 : decode cX9_aMinute 71 = .ok (.aload_n 0, 1) := by decide +kernel
theorem dX9_aMinute_72 : decode cX9_aMinute 72 = .ok (.iload_n 2, 1) := by decide +kernel
theorem dX9_aMinute_73 : decode cX9_aMinute 73 = .ok (.invokevirtual 354, 3) := by decide +kernel
theorem dX9_aMinute_76 : decode cX9_aMinute 76 = .ok (.ifCond .eq 39, 3) := by decide +kernel
theorem dX9_aMinute_79 : decode cX9_aMinute 79 = .ok (.aload_n 0, 1) := by decide +kernel
theorem dX9_aMinute_80 : decode cX9_aMinute 80 = .ok (.iload_n 2, 1) := by decide +kernel
theorem dX9_aMinute_81 : decode cX9_aMinute 81 = .ok (.iconst 1, 1) := by decide +kernel
theorem dX9_aMinute_82 : decode cX9_aMinute 82 = .ok (.invokevirtual 76, 3) := by decide +kernel
theorem dX9_aMinute_85 : decode cX9_aMinute 85 = .ok (.aload_n 0, 1) := by decide +kernel
theorem dX9_aMinute_86 : decode cX9_aMinute 86 = .ok (.getfield 7, 3) := by decide +kernel
theorem dX9_aMinute_89 : decode cX9_aMinute 89 = .ok (.iconst 0, 1) := by decide +kernel
theorem dX9_aMinute_90 : decode cX9_aMinute 90 = .ok (.iaload, 1) := by decide +kernel
theorem dX9_aMinute_91 : decode cX9_aMinute 91 = .ok (.if_icmp .ge 24, 3) := by decide +kernel
theorem dX9_aMinute_94 : decode cX9_aMinute 94 = .ok (.aload_n 0, 1) := by decide +kernel
theorem dX9_aMinute_95 : decode cX9_aMinute 95 = .ok (.aload_n 0, 1) := by decide +kernel
theorem dX9_aMinute_96 : decode cX9_aMinute 96 = .ok (.iload_n 2, 1) := by decide +kernel
theorem dX9_aMinute_97 : decode cX9_aMinute 97 = .ok (.invokevirtual 320, 3) := by decide +kernel
theorem dX9_aMinute_100 : decode cX9_aMinute 100 = .ok (.aload_n 0, 1) := by decide +kernel
theorem dX9_aMinute_101 : decode cX9_aMinute 101 = .ok (.invokevirtual 317, 3) := by decide +kernel
theorem dX9_aMinute_104 : decode cX9_aMinute 104 = .ok (.invokevirtual 391, 3) := by decide +kernel
theorem dX9_aMinute_107 : decode cX9_aMinute 107 = .ok (.ifCond .eq 8, 3) := by decide +kernel
theorem dX9_aMinute_110 : decode cX9_aMinute 110 = .ok (.aload_n 0, 1) := by decide +kernel
theorem dX9_aMinute_111 : decode cX9_aMinute 111 = .ok (.iload_n 2, 1) := by decide +kernel
theorem dX9_aMinute_112 : decode cX9_aMinute 112 = .ok (.invokevirtual 395, 3) := by decide +kernel
theorem dX9_aMinute_115 : decode cX9_aMinute 115 = .ok (.iinc 2 1, 3) := by decide +kernel
theorem dX9_aMinute_118 : decode cX9_aMinute 118 = .ok (.goto (-57), 3) := by decide +kernel
theorem dX9_aMinute_121 : decode cX9_aMinute 121 = .ok (.aload_n 0, 1) := by decide +kernel
theorem dX9_aMinute_122 : decode cX9_aMinute 122 = .ok (.getfield 7, 3) := by decide +kernel
theorem dX9_aMinute_125 : decode cX9_aMinute 125 = .ok (.iconst 3, 1) := by decide +kernel
theorem dX9_aMinute_126 : decode cX9_aMinute 126 = .ok (.iaload, 1) := by decide +kernel
theorem dX9_aMinute_127 : decode cX9_aMinute 127 = .ok (.istore_n 2, 1) := by decide +kernel
theorem dX9_aMinute_128 : decode cX9_aMinute 128 = .ok (.iconst 0, 1) := by decide +kernel
theorem dX9_aMinute_129 : decode cX9_aMinute 129 = .ok (.istore_n 3, 1) := by decide +kernel
theorem dX9_aMinute_130 : decode cX9_aMinute 130 = .ok (.iload_n 3, 1) := by decide +kernel
theorem dX9_aMinute_131 : decode cX9_aMinute 131 = .ok (.iload_n 2, 1) := by decide +kernel
theorem dX9_aMinute_132 : decode cX9_aMinute 132 = .ok (.if_icmp .ge 30, 3) := by decide +kernel
theorem dX9_aMinute_135 : decode cX9_aMinute 135 = .ok (.aload_n 0, 1) := by decide +kernel
theorem dX9_aMinute_136 : decode cX9_aMinute 136 = .ok (.iload_n 3, 1) := by decide +kernel
theorem dX9_aMinute_137 : decode cX9_aMinute 137 = .ok (.bipush 8, 2) := by decide +kernel
theorem dX9_aMinute_139 : decode cX9_aMinute 139 = .ok (.invokevirtual 76, 3) := by decide +kernel
theorem dX9_aMinute_142 : decode cX9_aMinute 142 = .ok (.aload_n 0, 1) := by decide +kernel
theorem dX9_aMinute_143 : decode cX9_aMinute 143 = .ok (.getfield 7, 3) := by decide +kernel
theorem dX9_aMinute_146 : decode cX9_aMinute 146 = .ok (.iconst 0, 1) := by decide +kernel
theorem dX9_aMinute_147 : decode cX9_aMinute 147 = .ok (.iaload, 1) := by decide +kernel
theorem dX9_aMinute_148 : decode cX9_aMinute 148 = .ok (.if_icmp .ne 8, 3) := by decide +kernel
theorem dX9_aMinute_151 : decode cX9_aMinute 151 = .ok (.aload_n 0, 1) := by decide +kernel
theorem dX9_aMinute_152 : decode cX9_aMinute 152 = .ok (.iload_n 3, 1) := by decide +kernel
theorem dX9_aMinute_153 : decode cX9_aMinute 153 = .ok (.invokevirtual 398, 3) := by decide +kernel
theorem dX9_aMinute_156 : decode cX9_aMinute 156 = .ok (.iinc 3 1, 3) := by decide +kernel
theorem dX9_aMinute_159 : decode cX9_aMinute 159 = .ok (.goto (-29), 3) := by decide +kernel
theorem dX9_aMinute_162 : decode cX9_aMinute 162 = .ok (.aload_n 0, 1) := by decide +kernel
theorem dX9_aMinute_163 : decode cX9_aMinute 163 = .ok (.getfield 7, 3) := by decide +kernel
theorem dX9_aMinute_166 : decode cX9_aMinute 166 = .ok (.iconst 0, 1) := by decide +kernel
theorem dX9_aMinute_167 : decode cX9_aMinute 167 = .ok (.dup2, 1) := by decide +kernel
theorem dX9_aMinute_168 : decode cX9_aMinute 168 = .ok (.iaload, 1) := by decide +kernel
theorem dX9_aMinute_169 : decode cX9_aMinute 169 = .ok (.iconst 1, 1) := by decide +kernel
theorem dX9_aMinute_170 : decode cX9_aMinute 170 = .ok (.iadd, 1) := by decide +kernel
theorem dX9_aMinute_171 : decode cX9_aMinute 171 = .ok (.iastore, 1) := by decide +kernel
theorem dX9_aMinute_172 : decode cX9_aMinute 172 = .ok (.iconst 0, 1) := by decide +kernel
theorem dX9_aMinute_173 : decode cX9_aMinute 173 = .ok (.istore_n 3, 1) := by decide +kernel
theorem dX9_aMinute_174 : decode cX9_aMinute 174 = .ok (.iload_n 3, 1) := by decide +kernel
theorem dX9_aMinute_175 : decode cX9_aMinute 175 = .ok (.iconst 2, 1) := by decide +kernel
theorem dX9_aMinute_176 : decode cX9_aMinute 176 = .ok (.if_icmp .ge 47, 3) := by decide +kernel
theorem dX9_aMinute_179 : decode cX9_aMinute 179 = .ok (.aload_n 0, 1) := by decide +kernel
theorem dX9_aMinute_180 : decode cX9_aMinute 180 = .ok (.getfield 7, 3) := by decide +kernel
theorem dX9_aMinute_183 : decode cX9_aMinute 183 = .ok (.iconst 0, 1) := by decide +kernel
theorem dX9_aMinute_184 : decode cX9_aMinute 184 = .ok (.iaload, 1) := by decide +kernel
theorem dX9_aMinute_185 : decode cX9_aMinute 185 = .ok (.sipush 1440, 3) := by decide +kernel
theorem dX9_aMinute_188 : decode cX9_aMinute 188 = .ok (.irem, 1) := by decide +kernel
theorem dX9_aMinute_189 : decode cX9_aMinute 189 = .ok (.sipush 240, 3) := by decide +kernel
theorem dX9_aMinute_192 : decode cX9_aMinute 192 = .ok (.if_icmp .ne 31, 3) := by decide +kernel
theorem dX9_aMinute_195 : decode cX9_aMinute 195 = .ok (.aload_n 0, 1) := by decide +kernel
theorem dX9_aMinute_196 : decode cX9_aMinute 196 = .ok (.getfield 7, 3) := by decide +kernel
theorem dX9_aMinute_199 : decode cX9_aMinute 199 = .ok (.iconst 4, 1) := by decide +kernel
theorem dX9_aMinute_200 : decode cX9_aMinute 200 = .ok (.iload_n 3, 1) := by decide +kernel
theorem dX9_aMinute_201 : decode cX9_aMinute 201 = .ok (.iadd, 1) := by decide +kernel
theorem dX9_aMinute_202 : decode cX9_aMinute 202 = .ok (.dup2, 1) := by decide +kernel
theorem dX9_aMinute_203 : decode cX9_aMinute 203 = .ok (.iaload, 1) := by decide +kernel
theorem dX9_aMinute_204 : decode cX9_aMinute 204 = .ok (.aload_n 0, 1) := by decide +kernel
theorem dX9_aMinute_205 : decode cX9_aMinute 205 = .ok (.getfield 7, 3) := by decide +kernel
theorem dX9_aMinute_208 : decode cX9_aMinute 208 = .ok (.iconst 4, 1) := by decide +kernel
theorem dX9_aMinute_209 : decode cX9_aMinute 209 = .ok (.iload_n 3, 1) := by decide +kernel
theorem dX9_aMinute_210 : decode cX9_aMinute 210 = .ok (.iadd, 1) := by decide +kernel
theorem dX9_aMinute_211 : decode cX9_aMinute 211 = .ok (.iaload, 1) := by decide +kernel
theorem dX9_aMinute_212 : decode cX9_aMinute 212 = .ok (.bipush 10, 2) := by decide +kernel
theorem dX9_aMinute_214 : decode cX9_aMinute 214 = .ok (.idiv, 1) := by decide +kernel
theorem dX9_aMinute_215 : decode cX9_aMinute 215 = .ok (.isub, 1) := by decide +kernel
theorem dX9_aMinute_216 : decode cX9_aMinute 216 = .ok (.iastore, 1) := by decide +kernel
theorem dX9_aMinute_217 : decode cX9_aMinute 217 = .ok (.iinc 3 1, 3) := by decide +kernel
theorem dX9_aMinute_220 : decode cX9_aMinute 220 = .ok (.goto (-46), 3) := by decide +kernel
theorem dX9_aMinute_223 : decode cX9_aMinute 223 = .ok (.aload_n 0, 1) := by decide +kernel
theorem dX9_aMinute_224 : decode cX9_aMinute 224 = .ok (.getfield 7, 3) := by decide +kernel
theorem dX9_aMinute_227 : decode cX9_aMinute 227 = .ok (.iconst 3, 1) := by decide +kernel
theorem dX9_aMinute_228 : decode cX9_aMinute 228 = .ok (.iaload, 1) := by decide +kernel
theorem dX9_aMinute_229 : decode cX9_aMinute 229 = .ok (.iload_n 1, 1) := by decide +kernel
theorem dX9_aMinute_230 : decode cX9_aMinute 230 = .ok (.isub, 1) := by decide +kernel
theorem dX9_aMinute_231 : decode cX9_aMinute 231 = .ok (.ireturn, 1) := by decide +kernel
theorem dX9_minutes_0 : decode cX9_minutes 0 = .ok (.iload_n 1, 1) := by decide +kernel
theorem dX9_minutes_1 : decode cX9_minutes 1 = .ok (.iconst 1, 1) := by decide +kernel
theorem dX9_minutes_2 : decode cX9_minutes 2 = .ok (.sipush 300, 3) := by decide +kernel
theorem dX9_minutes_5 : decode cX9_minutes 5 = .ok (.invokestatic 72, 3) := by decide +kernel
theorem dX9_minutes_8 : decode cX9_minutes 8 = .ok (.ifCond .eq 17, 3) := by decide +kernel
theorem dX9_minutes_11 : decode cX9_minutes 11 = .ok (.aload_n 0, 1) := by decide +kernel
theorem dX9_minutes_12 : decode cX9_minutes 12 = .ok (.getfield 7, 3) := by decide +kernel
theorem dX9_minutes_15 : decode cX9_minutes 15 = .ok (.iconst 0, 1) := by decide +kernel
theorem dX9_minutes_16 : decode cX9_minutes 16 = .ok (.iaload, 1) := by decide +kernel
theorem dX9_minutes_17 : decode cX9_minutes 17 = .ok (.iload_n 1, 1) := by decide +kernel
theorem dX9_minutes_18 : decode cX9_minutes 18 = .ok (.iadd, 1) := by decide +kernel
theorem dX9_minutes_19 : decode cX9_minutes 19 = .ok (.ldc_w 401, 3) := by decide +kernel
theorem dX9_minutes_22 : decode cX9_minutes 22 = .ok (.if_icmp .le 5, 3) := by decide +kernel
theorem dX9_minutes_25 : decode cX9_minutes 25 = .ok (.iconst (-1), 1) := by decide +kernel
theorem dX9_minutes_26 : decode cX9_minutes 26 = .ok (.ireturn, 1) := by decide +kernel
theorem dX9_minutes_27 : decode cX9_minutes 27 = .ok (.iconst 0, 1) := by decide +kernel
theorem dX9_minutes_28 : decode cX9_minutes 28 = .ok (.istore_n 2, 1) := by decide +kernel
theorem dX9_minutes_29 : decode cX9_minutes 29 = .ok (.iconst 0, 1) := by decide +kernel
theorem dX9_minutes_30 : decode cX9_minutes 30 = .ok (.istore_n 3, 1) := by decide +kernel
theorem dX9_minutes_31 : decode cX9_minutes 31 = .ok (.iload_n 3, 1) := by decide +kernel
theorem dX9_minutes_32 : decode cX9_minutes 32 = .ok (.iload_n 1, 1) := by decide +kernel
theorem dX9_minutes_33 : decode cX9_minutes 33 = .ok (.if_icmp .ge 20, 3) := by decide +kernel
theorem dX9_minutes_36 : decode cX9_minutes 36 = .ok (.aload_n 0, 1) := by decide +kernel
theorem dX9_minutes_37 : decode cX9_minutes 37 = .ok (.invokevirtual 345, 3) := by decide +kernel
theorem dX9_minutes_40 : decode cX9_minutes 40 = .ok (.iload_n 2, 1) := by decide +kernel
theorem dX9_minutes_41 : decode cX9_minutes 41 = .ok (.aload_n 0, 1) := by decide +kernel
theorem dX9_minutes_42 : decode cX9_minutes 42 = .ok (.invokevirtual 402, 3) := by decide +kernel
theorem dX9_minutes_45 : decode cX9_minutes 45 = .ok (.iadd, 1) := by decide +kernel
theorem dX9_minutes_46 : decode cX9_minutes 46 = .ok (.istore_n 2, 1) := by decide +kernel
theorem dX9_minutes_47 : decode cX9_minutes 47 = .ok (.iinc 3 1, 3) := by decide +kernel
theorem dX9_minutes_50 : decode cX9_minutes 50 = .ok (.goto (-19), 3) := by decide +kernel
theorem dX9_minutes_53 : decode cX9_minutes 53 = .ok (.iload_n 2, 1) := by decide +kernel
theorem dX9_minutes_54 : decode cX9_minutes 54 = .ok (.ireturn, 1) := by decide +kernel
theorem dX9_of_0 : decode cX9_of 0 = .ok (.iload_n 1, 1) := by decide +kernel
theorem dX9_of_1 : decode cX9_of 1 = .ok (.invokestatic 91, 3) := by decide +kernel
theorem dX9_of_4 : decode cX9_of 4 = .ok (.ifCond .ne 5, 3) := by decide +kernel
theorem dX9_of_7 : decode cX9_of 7 = .ok (.iconst (-1), 1) := by decide +kernel
theorem dX9_of_8 : decode cX9_of 8 = .ok (.ireturn, 1) := by decide +kernel
theorem dX9_of_9 : decode cX9_of 9 = .ok (.iload_n 2, 1) := by decide +kernel
theorem dX9_of_10 : decode cX9_of 10 = .ok (.tableswitch 70 0 3 #[30, 39, 49, 60], 30) := by decide +kernel
theorem dX9_of_40 : decode cX9_of 40 = .ok (.aload_n 0, 1) := by decide +kernel
theorem dX9_of_41 : decode cX9_of 41 = .ok (.getfield 7, 3) := by decide +kernel
theorem dX9_of_44 : decode cX9_of 44 = .ok (.iconst 4, 1) := by decide +kernel
theorem dX9_of_45 : decode cX9_of 45 = .ok (.iload_n 1, 1) := by decide +kernel
theorem dX9_of_46 : decode cX9_of 46 = .ok (.iadd, 1) := by decide +kernel
theorem dX9_of_47 : decode cX9_of 47 = .ok (.iaload, 1) := by decide +kernel
theorem dX9_of_48 : decode cX9_of 48 = .ok (.ireturn, 1) := by decide +kernel
theorem dX9_of_49 : decode cX9_of 49 = .ok (.aload_n 0, 1) := by decide +kernel
theorem dX9_of_50 : decode cX9_of 50 = .ok (.getfield 7, 3) := by decide +kernel
theorem dX9_of_53 : decode cX9_of 53 = .ok (.bipush 6, 2) := by decide +kernel
theorem dX9_of_55 : decode cX9_of 55 = .ok (.iload_n 1, 1) := by decide +kernel
theorem dX9_of_56 : decode cX9_of 56 = .ok (.iadd, 1) := by decide +kernel
theorem dX9_of_57 : decode cX9_of 57 = .ok (.iaload, 1) := by decide +kernel
theorem dX9_of_58 : decode cX9_of 58 = .ok (.ireturn, 1) := by decide +kernel
theorem dX9_of_59 : decode cX9_of 59 = .ok (.aload_n 0, 1) := by decide +kernel
theorem dX9_of_60 : decode cX9_of 60 = .ok (.getfield 7, 3) := by decide +kernel
theorem dX9_of_63 : decode cX9_of 63 = .ok (.sipush 548, 3) := by decide +kernel
theorem dX9_of_66 : decode cX9_of 66 = .ok (.iload_n 1, 1) := by decide +kernel
theorem dX9_of_67 : decode cX9_of 67 = .ok (.iadd, 1) := by decide +kernel
theorem dX9_of_68 : decode cX9_of 68 = .ok (.iaload, 1) := by decide +kernel
theorem dX9_of_69 : decode cX9_of 69 = .ok (.ireturn, 1) := by decide +kernel
theorem dX9_of_70 : decode cX9_of 70 = .ok (.aload_n 0, 1) := by decide +kernel
theorem dX9_of_71 : decode cX9_of 71 = .ok (.iload_n 1, 1) := by decide +kernel
theorem dX9_of_72 : decode cX9_of 72 = .ok (.aload_n 0, 1) := by decide +kernel
theorem dX9_of_73 : decode cX9_of 73 = .ok (.invokevirtual 317, 3) := by decide +kernel
theorem dX9_of_76 : decode cX9_of 76 = .ok (.invokevirtual 314, 3) := by decide +kernel
theorem dX9_of_79 : decode cX9_of 79 = .ok (.ireturn, 1) := by decide +kernel
theorem dX9_of_80 : decode cX9_of 80 = .ok (.iconst (-1), 1) := by decide +kernel
theorem dX9_of_81 : decode cX9_of 81 = .ok (.ireturn, 1) := by decide +kernel
theorem dX9_message_0 : decode cX9_message 0 = .ok (.aload_n 0, 1) := by decide +kernel
theorem dX9_message_1 : decode cX9_message 1 = .ok (.iload_n 1, 1) := by decide +kernel
theorem dX9_message_2 : decode cX9_message 2 = .ok (.invokevirtual 351, 3) := by decide +kernel
theorem dX9_message_5 : decode cX9_message 5 = .ok (.ifCond .eq 22, 3) := by decide +kernel
theorem dX9_message_8 : decode cX9_message 8 = .ok (.iload_n 2, 1) := by decide +kernel
theorem dX9_message_9 : decode cX9_message 9 = .ok (.iconst 0, 1) := by decide +kernel
theorem dX9_message_10 : decode cX9_message 10 = .ok (.bipush 8, 2) := by decide +kernel
theorem dX9_message_12 : decode cX9_message 12 = .ok (.invokestatic 72, 3) := by decide +kernel
theorem dX9_message_15 : decode cX9_message 15 = .ok (.ifCond .eq 12, 3) := by decide +kernel
theorem dX9_message_18 : decode cX9_message 18 = .ok (.aload_n 0, 1) := by decide +kernel
theorem dX9_message_19 : decode cX9_message 19 = .ok (.iload_n 1, 1) := by decide +kernel
theorem dX9_message_20 : decode cX9_message 20 = .ok (.iload_n 2, 1) := by decide +kernel
theorem dX9_message_21 : decode cX9_message 21 = .ok (.invokevirtual 76, 3) := by decide +kernel
theorem dX9_message_24 : decode cX9_message 24 = .ok (.goto 5, 3) := by decide +kernel
theorem dX9_message_27 : decode cX9_message 27 = .ok (.bipush (-2), 2) := by decide +kernel
theorem dX9_message_29 : decode cX9_message 29 = .ok (.ireturn, 1) := by decide +kernel
theorem dX9_asks_0 : decode cX9_asks 0 = .ok (.aload_n 0, 1) := by decide +kernel
theorem dX9_asks_1 : decode cX9_asks 1 = .ok (.iload_n 1, 1) := by decide +kernel
theorem dX9_asks_2 : decode cX9_asks 2 = .ok (.invokevirtual 351, 3) := by decide +kernel
theorem dX9_asks_5 : decode cX9_asks 5 = .ok (.ifCond .ne 6, 3) := by decide +kernel
theorem dX9_asks_8 : decode cX9_asks 8 = .ok (.bipush (-100), 2) := by decide +kernel
theorem dX9_asks_10 : decode cX9_asks 10 = .ok (.ireturn, 1) := by decide +kernel
theorem dX9_asks_11 : decode cX9_asks 11 = .ok (.aload_n 0, 1) := by decide +kernel
theorem dX9_asks_12 : decode cX9_asks 12 = .ok (.iload_n 1, 1) := by decide +kernel
theorem dX9_asks_13 : decode cX9_asks 13 = .ok (.invokevirtual 364, 3) := by decide +kernel
theorem dX9_asks_16 : decode cX9_asks 16 = .ok (.iload_n 2, 1) := by decide +kernel
theorem dX9_asks_17 : decode cX9_asks 17 = .ok (.tableswitch 60 0 4 #[35, 40, 45, 50, 55], 35) := by decide +kernel
theorem dX9_asks_52 : decode cX9_asks 52 = .ok (.aload_n 0, 1) := by decide +kernel
theorem dX9_asks_53 : decode cX9_asks 53 = .ok (.invokevirtual 379, 3) := by decide +kernel
theorem dX9_asks_56 : decode cX9_asks 56 = .ok (.ireturn, 1) := by decide +kernel
theorem dX9_asks_57 : decode cX9_asks 57 = .ok (.aload_n 0, 1) := by decide +kernel
theorem dX9_asks_58 : decode cX9_asks 58 = .ok (.invokevirtual 382, 3) := by decide +kernel
theorem dX9_asks_61 : decode cX9_asks 61 = .ok (.ireturn, 1) := by decide +kernel
theorem dX9_asks_62 : decode cX9_asks 62 = .ok (.aload_n 0, 1) := by decide +kernel
theorem dX9_asks_63 : decode cX9_asks 63 = .ok (.invokevirtual 385, 3) := by decide +kernel
theorem dX9_asks_66 : decode cX9_asks 66 = .ok (.ireturn, 1) := by decide +kernel
theorem dX9_asks_67 : decode cX9_asks 67 = .ok (.aload_n 0, 1) := by decide +kernel
theorem dX9_asks_68 : decode cX9_asks 68 = .ok (.invokevirtual 367, 3) := by decide +kernel
theorem dX9_asks_71 : decode cX9_asks 71 = .ok (.ireturn, 1) := by decide +kernel
theorem dX9_asks_72 : decode cX9_asks 72 = .ok (.aload_n 0, 1) := by decide +kernel
theorem dX9_asks_73 : decode cX9_asks 73 = .ok (.invokevirtual 370, 3) := by decide +kernel
theorem dX9_asks_76 : decode cX9_asks 76 = .ok (.ireturn, 1) := by decide +kernel
theorem dX9_asks_77 : decode cX9_asks 77 = .ok (.bipush (-100), 2) := by decide +kernel
theorem dX9_asks_79 : decode cX9_asks 79 = .ok (.ireturn, 1) := by decide +kernel
theorem dX9_book_0 : decode cX9_book 0 = .ok (.iload_n 1, 1) := by decide +kernel
theorem dX9_book_1 : decode cX9_book 1 = .ok (.iconst 0, 1) := by decide +kernel
theorem dX9_book_2 : decode cX9_book 2 = .ok (.aload_n 0, 1) := by decide +kernel
theorem dX9_book_3 : decode cX9_book 3 = .ok (.getfield 7, 3) := by decide +kernel
theorem dX9_book_6 : decode cX9_book 6 = .ok (.iconst 2, 1) := by decide +kernel
theorem dX9_book_7 : decode cX9_book 7 = .ok (.iaload, 1) := by decide +kernel
theorem dX9_book_8 : decode cX9_book 8 = .ok (.iconst 1, 1) := by decide +kernel
theorem dX9_book_9 : decode cX9_book 9 = .ok (.isub, 1) := by decide +kernel
theorem dX9_book_10 : decode cX9_book 10 = .ok (.invokestatic 72, 3) := by decide +kernel
theorem dX9_book_13 : decode cX9_book 13 = .ok (.ifCond .eq 29, 3) := by decide +kernel
theorem dX9_book_16 : decode cX9_book 16 = .ok (.iload_n 2, 1) := by decide +kernel
theorem dX9_book_17 : decode cX9_book 17 = .ok (.iconst 0, 1) := by decide +kernel
theorem dX9_book_18 : decode cX9_book 18 = .ok (.iconst 3, 1) := by decide +kernel
theorem dX9_book_19 : decode cX9_book 19 = .ok (.invokestatic 72, 3) := by decide +kernel
theorem dX9_book_22 : decode cX9_book 22 = .ok (.ifCond .eq 20, 3) := by decide +kernel
theorem dX9_book_25 : decode cX9_book 25 = .ok (.aload_n 0, 1) := by decide +kernel
theorem dX9_book_26 : decode cX9_book 26 = .ok (.getfield 7, 3) := by decide +kernel
theorem dX9_book_29 : decode cX9_book 29 = .ok (.sipush 733, 3) := by decide +kernel
theorem dX9_book_32 : decode cX9_book 32 = .ok (.iconst 4, 1) := by decide +kernel
theorem dX9_book_33 : decode cX9_book 33 = .ok (.iload_n 1, 1) := by decide +kernel
theorem dX9_book_34 : decode cX9_book 34 = .ok (.imul, 1) := by decide +kernel
theorem dX9_book_35 : decode cX9_book 35 = .ok (.iadd, 1) := by decide +kernel
theorem dX9_book_36 : decode cX9_book 36 = .ok (.iload_n 2, 1) := by decide +kernel
theorem dX9_book_37 : decode cX9_book 37 = .ok (.iadd, 1) := by decide +kernel
theorem dX9_book_38 : decode cX9_book 38 = .ok (.iaload, 1) := by decide +kernel
theorem dX9_book_39 : decode cX9_book 39 = .ok (.goto 5, 3) := by decide +kernel
theorem dX9_book_42 : decode cX9_book 42 = .ok (.bipush (-2), 2) := by decide +kernel
theorem dX9_book_44 : decode cX9_book 44 = .ok (.ireturn, 1) := by decide +kernel
theorem dX9_laysAside_0 : decode cX9_laysAside 0 = .ok (.iconst 0, 1) := by decide +kernel
theorem dX9_laysAside_1 : decode cX9_laysAside 1 = .ok (.istore_n 1, 1) := by decide +kernel
theorem dX9_laysAside_2 : decode cX9_laysAside 2 = .ok (.iload_n 1, 1) := by decide +kernel
theorem dX9_laysAside_3 : decode cX9_laysAside 3 = .ok (.sipush 548, 3) := by decide +kernel
theorem dX9_laysAside_6 : decode cX9_laysAside 6 = .ok (.if_icmp .ge 21, 3) := by decide +kernel
theorem dX9_laysAside_9 : decode cX9_laysAside 9 = .ok (.aload_n 0, 1) := by decide +kernel
theorem dX9_laysAside_10 : decode cX9_laysAside 10 = .ok (.getfield 19, 3) := by decide +kernel
theorem dX9_laysAside_13 : decode cX9_laysAside 13 = .ok (.iload_n 1, 1) := by decide +kernel
theorem dX9_laysAside_14 : decode cX9_laysAside 14 = .ok (.aload_n 0, 1) := by decide +kernel
theorem dX9_laysAside_15 : decode cX9_laysAside 15 = .ok (.getfield 7, 3) := by decide +kernel
theorem dX9_laysAside_18 : decode cX9_laysAside 18 = .ok (.iload_n 1, 1) := by decide +kernel
theorem dX9_laysAside_19 : decode cX9_laysAside 19 = .ok (.iaload, 1) := by decide +kernel
theorem dX9_laysAside_20 : decode cX9_laysAside 20 = .ok (.iastore, 1) := by decide +kernel
theorem dX9_laysAside_21 : decode cX9_laysAside 21 = .ok (.iinc 1 1, 3) := by decide +kernel
theorem dX9_laysAside_24 : decode cX9_laysAside 24 = .ok (.goto (-22), 3) := by decide +kernel
theorem dX9_laysAside_27 : decode cX9_laysAside 27 = .ok (.aload_n 0, 1) := by decide +kernel
theorem dX9_laysAside_28 : decode cX9_laysAside 28 = .ok (.iconst 0, 1) := by decide +kernel
theorem dX9_laysAside_29 : decode cX9_laysAside 29 = .ok (.putfield 330, 3) := by decide +kernel
theorem dX9_laysAside_32 : decode cX9_laysAside 32 = .ok (.aload_n 0, 1) := by decide +kernel
theorem dX9_laysAside_33 : decode cX9_laysAside 33 = .ok (.iconst (-1), 1) := by decide +kernel
theorem dX9_laysAside_34 : decode cX9_laysAside 34 = .ok (.putfield 44, 3) := by decide +kernel
theorem dX9_laysAside_37 : decode cX9_laysAside 37 = .ok (.return_, 1) := by decide +kernel
theorem dX9_putsBack_0 : decode cX9_putsBack 0 = .ok (.iconst 0, 1) := by decide +kernel
theorem dX9_putsBack_1 : decode cX9_putsBack 1 = .ok (.istore_n 1, 1) := by decide +kernel
theorem dX9_putsBack_2 : decode cX9_putsBack 2 = .ok (.iload_n 1, 1) := by decide +kernel
theorem dX9_putsBack_3 : decode cX9_putsBack 3 = .ok (.sipush 548, 3) := by decide +kernel
theorem dX9_putsBack_6 : decode cX9_putsBack 6 = .ok (.if_icmp .ge 21, 3) := by decide +kernel
theorem dX9_putsBack_9 : decode cX9_putsBack 9 = .ok (.aload_n 0, 1) := by decide +kernel
theorem dX9_putsBack_10 : decode cX9_putsBack 10 = .ok (.getfield 7, 3) := by decide +kernel
theorem dX9_putsBack_13 : decode cX9_putsBack 13 = .ok (.iload_n 1, 1) := by decide +kernel
theorem dX9_putsBack_14 : decode cX9_putsBack 14 = .ok (.aload_n 0, 1) := by decide +kernel
theorem dX9_putsBack_15 : decode cX9_putsBack 15 = .ok (.getfield 19, 3) := by decide +kernel
theorem dX9_putsBack_18 : decode cX9_putsBack 18 = .ok (.iload_n 1, 1) := by decide +kernel
theorem dX9_putsBack_19 : decode cX9_putsBack 19 = .ok (.iaload, 1) := by decide +kernel
theorem dX9_putsBack_20 : decode cX9_putsBack 20 = .ok (.iastore, 1) := by decide +kernel
theorem dX9_putsBack_21 : decode cX9_putsBack 21 = .ok (.iinc 1 1, 3) := by decide +kernel
theorem dX9_putsBack_24 : decode cX9_putsBack 24 = .ok (.goto (-22), 3) := by decide +kernel
theorem dX9_putsBack_27 : decode cX9_putsBack 27 = .ok (.return_, 1) := by decide +kernel
theorem dX9_lastFrom_0 : decode cX9_lastFrom 0 = .ok (.iconst (-1), 1) := by decide +kernel
theorem dX9_lastFrom_1 : decode cX9_lastFrom 1 = .ok (.istore_n 1, 1) := by decide +kernel
theorem dX9_lastFrom_2 : decode cX9_lastFrom 2 = .ok (.iconst 0, 1) := by decide +kernel
theorem dX9_lastFrom_3 : decode cX9_lastFrom 3 = .ok (.istore_n 2, 1) := by decide +kernel
theorem dX9_lastFrom_4 : decode cX9_lastFrom 4 = .ok (.iload_n 2, 1) := by decide +kernel
theorem dX9_lastFrom_5 : decode cX9_lastFrom 5 = .ok (.aload_n 0, 1) := by decide +kernel
theorem dX9_lastFrom_6 : decode cX9_lastFrom 6 = .ok (.getfield 7, 3) := by decide +kernel
theorem dX9_lastFrom_9 : decode cX9_lastFrom 9 = .ok (.iconst 3, 1) := by decide +kernel
theorem dX9_lastFrom_10 : decode cX9_lastFrom 10 = .ok (.iaload, 1) := by decide +kernel
theorem dX9_lastFrom_11 : decode cX9_lastFrom 11 = .ok (.if_icmp .ge 28, 3) := by decide +kernel
theorem dX9_lastFrom_14 : decode cX9_lastFrom 14 = .ok (.aload_n 0, 1) := by decide +kernel
theorem dX9_lastFrom_15 : decode cX9_lastFrom 15 = .ok (.iload_n 2, 1) := by decide +kernel
theorem dX9_lastFrom_16 : decode cX9_lastFrom 16 = .ok (.invokevirtual 79, 3) := by decide +kernel
theorem dX9_lastFrom_19 : decode cX9_lastFrom 19 = .ok (.ifCond .eq 7, 3) := by decide +kernel
theorem dX9_lastFrom_22 : decode cX9_lastFrom 22 = .ok (.iload_n 1, 1) := by decide +kernel
theorem dX9_lastFrom_23 : decode cX9_lastFrom 23 = .ok (.goto 9, 3) := by decide +kernel
theorem dX9_lastFrom_26 : decode cX9_lastFrom 26 = .ok (.aload_n 0, 1) := by decide +kernel
theorem dX9_lastFrom_27 : decode cX9_lastFrom 27 = .ok (.iload_n 2, 1) := by decide +kernel
theorem dX9_lastFrom_28 : decode cX9_lastFrom 28 = .ok (.iconst 0, 1) := by decide +kernel
theorem dX9_lastFrom_29 : decode cX9_lastFrom 29 = .ok (.invokevirtual 76, 3) := by decide +kernel
theorem dX9_lastFrom_32 : decode cX9_lastFrom 32 = .ok (.istore_n 1, 1) := by decide +kernel
theorem dX9_lastFrom_33 : decode cX9_lastFrom 33 = .ok (.iinc 2 1, 3) := by decide +kernel
theorem dX9_lastFrom_36 : decode cX9_lastFrom 36 = .ok (.goto (-32), 3) := by decide +kernel
theorem dX9_lastFrom_39 : decode cX9_lastFrom 39 = .ok (.iload_n 1, 1) := by decide +kernel
theorem dX9_lastFrom_40 : decode cX9_lastFrom 40 = .ok (.ireturn, 1) := by decide +kernel
theorem dX9_goes_0 : decode cX9_goes 0 = .ok (.iload_n 1, 1) := by decide +kernel
theorem dX9_goes_1 : decode cX9_goes 1 = .ok (.iconst 1, 1) := by decide +kernel
theorem dX9_goes_2 : decode cX9_goes 2 = .ok (.sipush 999, 3) := by decide +kernel
theorem dX9_goes_5 : decode cX9_goes 5 = .ok (.invokestatic 72, 3) := by decide +kernel
theorem dX9_goes_8 : decode cX9_goes 8 = .ok (.ifCond .eq 12, 3) := by decide +kernel
theorem dX9_goes_11 : decode cX9_goes 11 = .ok (.iload_n 2, 1) := by decide +kernel
theorem dX9_goes_12 : decode cX9_goes 12 = .ok (.iconst 0, 1) := by decide +kernel
theorem dX9_goes_13 : decode cX9_goes 13 = .ok (.iconst 3, 1) := by decide +kernel
theorem dX9_goes_14 : decode cX9_goes 14 = .ok (.invokestatic 72, 3) := by decide +kernel
theorem dX9_goes_17 : decode cX9_goes 17 = .ok (.ifCond .ne 6, 3) := by decide +kernel
theorem dX9_goes_20 : decode cX9_goes 20 = .ok (.bipush (-2), 2) := by decide +kernel
theorem dX9_goes_22 : decode cX9_goes 22 = .ok (.ireturn, 1) := by decide +kernel
theorem dX9_goes_23 : decode cX9_goes 23 = .ok (.aload_n 0, 1) := by decide +kernel
theorem dX9_goes_24 : decode cX9_goes 24 = .ok (.invokevirtual 405, 3) := by decide +kernel
theorem dX9_goes_27 : decode cX9_goes 27 = .ok (.iconst 0, 1) := by decide +kernel
theorem dX9_goes_28 : decode cX9_goes 28 = .ok (.istore_n 3, 1) := by decide +kernel
theorem dX9_goes_29 : decode cX9_goes 29 = .ok (.iload_n 3, 1) := by decide +kernel
theorem dX9_goes_30 : decode cX9_goes 30 = .ok (.iload_n 1, 1) := by decide +kernel
theorem dX9_goes_31 : decode cX9_goes 31 = .ok (.if_icmp .ge 14, 3) := by decide +kernel
theorem dX9_goes_34 : decode cX9_goes 34 = .ok (.aload_n 0, 1) := by decide +kernel
theorem dX9_goes_35 : decode cX9_goes 35 = .ok (.invokevirtual 402, 3) := by decide +kernel
theorem dX9_goes_38 : decode cX9_goes 38 = .ok (.pop, 1) := by decide +kernel
theorem dX9_goes_39 : decode cX9_goes 39 = .ok (.iinc 3 1, 3) := by decide +kernel
theorem dX9_goes_42 : decode cX9_goes 42 = .ok (.goto (-13), 3) := by decide +kernel
theorem dX9_goes_45 : decode cX9_goes 45 = .ok (.iload_n 2, 1) := by decide +kernel
theorem dX9_goes_46 : decode cX9_goes 46 = .ok (.ifCond .ne 12, 3) := by decide +kernel
theorem dX9_goes_49 : decode cX9_goes 49 = .ok (.aload_n 0, 1) := by decide +kernel
theorem dX9_goes_50 : decode cX9_goes 50 = .ok (.getfield 7, 3) := by decide +kernel
theorem dX9_goes_53 : decode cX9_goes 53 = .ok (.iconst 3, 1) := by decide +kernel
theorem dX9_goes_54 : decode cX9_goes 54 = .ok (.iaload, 1) := by decide +kernel
theorem dX9_goes_55 : decode cX9_goes 55 = .ok (.goto 25, 3) := by decide +kernel
theorem dX9_goes_58 : decode cX9_goes 58 = .ok (.iload_n 2, 1) := by decide +kernel
theorem dX9_goes_59 : decode cX9_goes 59 = .ok (.iconst 1, 1) := by decide +kernel
theorem dX9_goes_60 : decode cX9_goes 60 = .ok (.if_icmp .ne 10, 3) := by decide +kernel
theorem dX9_goes_63 : decode cX9_goes 63 = .ok (.aload_n 0, 1) := by decide +kernel
theorem dX9_goes_64 : decode cX9_goes 64 = .ok (.invokevirtual 408, 3) := by decide +kernel
theorem dX9_goes_67 : decode cX9_goes 67 = .ok (.goto 13, 3) := by decide +kernel
theorem dX9_goes_70 : decode cX9_goes 70 = .ok (.aload_n 0, 1) := by decide +kernel
theorem dX9_goes_71 : decode cX9_goes 71 = .ok (.getfield 7, 3) := by decide +kernel
theorem dX9_goes_74 : decode cX9_goes 74 = .ok (.iconst 4, 1) := by decide +kernel
theorem dX9_goes_75 : decode cX9_goes 75 = .ok (.iload_n 2, 1) := by decide +kernel
theorem dX9_goes_76 : decode cX9_goes 76 = .ok (.iadd, 1) := by decide +kernel
theorem dX9_goes_77 : decode cX9_goes 77 = .ok (.iconst 2, 1) := by decide +kernel
theorem dX9_goes_78 : decode cX9_goes 78 = .ok (.isub, 1) := by decide +kernel
theorem dX9_goes_79 : decode cX9_goes 79 = .ok (.iaload, 1) := by decide +kernel
theorem dX9_goes_80 : decode cX9_goes 80 = .ok (.istore_n 3, 1) := by decide +kernel
theorem dX9_goes_81 : decode cX9_goes 81 = .ok (.aload_n 0, 1) := by decide +kernel
theorem dX9_goes_82 : decode cX9_goes 82 = .ok (.invokevirtual 411, 3) := by decide +kernel
theorem dX9_goes_85 : decode cX9_goes 85 = .ok (.iload_n 3, 1) := by decide +kernel
theorem dX9_goes_86 : decode cX9_goes 86 = .ok (.ireturn, 1) := by decide +kernel
theorem dX9_deletes_0 : decode cX9_deletes 0 = .ok (.iload_n 1, 1) := by decide +kernel
theorem dX9_deletes_1 : decode cX9_deletes 1 = .ok (.invokestatic 91, 3) := by decide +kernel
theorem dX9_deletes_4 : decode cX9_deletes 4 = .ok (.ifCond .eq 23, 3) := by decide +kernel
theorem dX9_deletes_7 : decode cX9_deletes 7 = .ok (.iload_n 2, 1) := by decide +kernel
theorem dX9_deletes_8 : decode cX9_deletes 8 = .ok (.iconst 1, 1) := by decide +kernel
theorem dX9_deletes_9 : decode cX9_deletes 9 = .ok (.sipush 300, 3) := by decide +kernel
theorem dX9_deletes_12 : decode cX9_deletes 12 = .ok (.invokestatic 72, 3) := by decide +kernel
theorem dX9_deletes_15 : decode cX9_deletes 15 = .ok (.ifCond .eq 12, 3) := by decide +kernel
theorem dX9_deletes_18 : decode cX9_deletes 18 = .ok (.iload_n 3, 1) := by decide +kernel
theorem dX9_deletes_19 : decode cX9_deletes 19 = .ok (.iconst 0, 1) := by decide +kernel
theorem dX9_deletes_20 : decode cX9_deletes 20 = .ok (.iconst 1, 1) := by decide +kernel
theorem dX9_deletes_21 : decode cX9_deletes 21 = .ok (.invokestatic 72, 3) := by decide +kernel
theorem dX9_deletes_24 : decode cX9_deletes 24 = .ok (.ifCond .ne 5, 3) := by decide +kernel
theorem dX9_deletes_27 : decode cX9_deletes 27 = .ok (.iconst (-1), 1) := by decide +kernel
theorem dX9_deletes_28 : decode cX9_deletes 28 = .ok (.ireturn, 1) := by decide +kernel
theorem dX9_deletes_29 : decode cX9_deletes 29 = .ok (.aload_n 0, 1) := by decide +kernel
theorem dX9_deletes_30 : decode cX9_deletes 30 = .ok (.invokevirtual 405, 3) := by decide +kernel
theorem dX9_deletes_33 : decode cX9_deletes 33 = .ok (.iconst 0, 1) := by decide +kernel
theorem dX9_deletes_34 : decode cX9_deletes 34 = .ok (.istore 4, 2) := by decide +kernel
theorem dX9_deletes_36 : decode cX9_deletes 36 = .ok (.iconst 0, 1) := by decide +kernel
theorem dX9_deletes_37 : decode cX9_deletes 37 = .ok (.istore 5, 2) := by decide +kernel
theorem dX9_deletes_39 : decode cX9_deletes 39 = .ok (.iload 5, 2) := by decide +kernel
theorem dX9_deletes_41 : decode cX9_deletes 41 = .ok (.aload_n 0, 1) := by decide +kernel
theorem dX9_deletes_42 : decode cX9_deletes 42 = .ok (.getfield 7, 3) := by decide +kernel
theorem dX9_deletes_45 : decode cX9_deletes 45 = .ok (.iconst 3, 1) := by decide +kernel
theorem dX9_deletes_46 : decode cX9_deletes 46 = .ok (.iaload, 1) := by decide +kernel
theorem dX9_deletes_47 : decode cX9_deletes 47 = .ok (.if_icmp .ge 50, 3) := by decide +kernel
theorem dX9_deletes_50 : decode cX9_deletes 50 = .ok (.iload 4, 2) := by decide +kernel
theorem dX9_deletes_52 : decode cX9_deletes 52 = .ok (.iconst 4, 1) := by decide +kernel
theorem dX9_deletes_53 : decode cX9_deletes 53 = .ok (.if_icmp .ge 44, 3) := by decide +kernel
theorem dX9_deletes_56 : decode cX9_deletes 56 = .ok (.aload_n 0, 1) := by decide +kernel
theorem dX9_deletes_57 : decode cX9_deletes 57 = .ok (.iload 5, 2) := by decide +kernel
theorem dX9_deletes_59 : decode cX9_deletes 59 = .ok (.iconst 0, 1) := by decide +kernel
theorem dX9_deletes_60 : decode cX9_deletes 60 = .ok (.invokevirtual 76, 3) := by decide +kernel
theorem dX9_deletes_63 : decode cX9_deletes 63 = .ok (.iload_n 1, 1) := by decide +kernel
theorem dX9_deletes_64 : decode cX9_deletes 64 = .ok (.if_icmp .ne 27, 3) := by decide +kernel
theorem dX9_deletes_67 : decode cX9_deletes 67 = .ok (.aload_n 0, 1) := by decide +kernel
theorem dX9_deletes_68 : decode cX9_deletes 68 = .ok (.iload 5, 2) := by decide +kernel
theorem dX9_deletes_70 : decode cX9_deletes 70 = .ok (.invokevirtual 354, 3) := by decide +kernel
theorem dX9_deletes_73 : decode cX9_deletes 73 = .ok (.ifCond .ne 6, 3) := by decide +kernel
theorem dX9_deletes_76 : decode cX9_deletes 76 = .ok (.goto 15, 3) := by decide +kernel
theorem dX9_deletes_79 : decode cX9_deletes 79 = .ok (.aload_n 0, 1) := by decide +kernel
theorem dX9_deletes_80 : decode cX9_deletes 80 = .ok (.getfield 47, 3) := by decide +kernel
theorem dX9_deletes_83 : decode cX9_deletes 83 = .ok (.iload 4, 2) := by decide +kernel
theorem dX9_deletes_85 : decode cX9_deletes 85 = .ok (.iload 5, 2) := by decide +kernel
theorem dX9_deletes_87 : decode cX9_deletes 87 = .ok (.iastore, 1) := by decide +kernel
theorem dX9_deletes_88 : decode cX9_deletes 88 = .ok (.iinc 4 1, 3) := by decide +kernel
theorem dX9_deletes_91 : decode cX9_deletes 91 = .ok (.iinc 5 1, 3) := by decide +kernel
theorem dX9_deletes_94 : decode cX9_deletes 94 = .ok (.goto (-55), 3) := by decide +kernel
theorem dX9_deletes_97 : decode cX9_deletes 97 = .ok (.iconst (-1), 1) := by decide +kernel
theorem dX9_deletes_98 : decode cX9_deletes 98 = .ok (.istore 5, 2) := by decide +kernel
theorem dX9_deletes_100 : decode cX9_deletes 100 = .ok (.ldc_w 414, 3) := by decide +kernel
theorem dX9_deletes_103 : decode cX9_deletes 103 = .ok (.istore 6, 2) := by decide +kernel
theorem dX9_deletes_105 : decode cX9_deletes 105 = .ok (.iconst 0, 1) := by decide +kernel
theorem dX9_deletes_106 : decode cX9_deletes 106 = .ok (.istore 7, 2) := by decide +kernel
theorem dX9_deletes_108 : decode cX9_deletes 108 = .ok (.iload 7, 2) := by decide +kernel
theorem dX9_deletes_110 : decode cX9_deletes 110 = .ok (.iconst 1, 1) := by decide +kernel
theorem dX9_deletes_111 : decode cX9_deletes 111 = .ok (.iload 4, 2) := by decide +kernel
theorem dX9_deletes_113 : decode cX9_deletes 113 = .ok (.ishl, 1) := by decide +kernel
theorem dX9_deletes_114 : decode cX9_deletes 114 = .ok (.if_icmp .ge 123, 3) := by decide +kernel
theorem dX9_deletes_117 : decode cX9_deletes 117 = .ok (.iconst 0, 1) := by decide +kernel
theorem dX9_deletes_118 : decode cX9_deletes 118 = .ok (.istore 8, 2) := by decide +kernel
theorem dX9_deletes_120 : decode cX9_deletes 120 = .ok (.iload 8, 2) := by decide +kernel
theorem dX9_deletes_122 : decode cX9_deletes 122 = .ok (.iload 4, 2) := by decide +kernel
theorem dX9_deletes_124 : decode cX9_deletes 124 = .ok (.if_icmp .ge 29, 3) := by decide +kernel
theorem dX9_deletes_127 : decode cX9_deletes 127 = .ok (.aload_n 0, 1) := by decide +kernel
theorem dX9_deletes_128 : decode cX9_deletes 128 = .ok (.aload_n 0, 1) := by decide +kernel
theorem dX9_deletes_129 : decode cX9_deletes 129 = .ok (.getfield 47, 3) := by decide +kernel
theorem dX9_deletes_132 : decode cX9_deletes 132 = .ok (.iload 8, 2) := by decide +kernel
theorem dX9_deletes_134 : decode cX9_deletes 134 = .ok (.iaload, 1) := by decide +kernel
theorem dX9_deletes_135 : decode cX9_deletes 135 = .ok (.bipush 7, 2) := by decide +kernel
theorem dX9_deletes_137 : decode cX9_deletes 137 = .ok (.iload 7, 2) := by decide +kernel
theorem dX9_deletes_139 : decode cX9_deletes 139 = .ok (.iload 8, 2) := by decide +kernel
theorem dX9_deletes_141 : decode cX9_deletes 141 = .ok (.ishr, 1) := by decide +kernel
theorem dX9_deletes_142 : decode cX9_deletes 142 = .ok (.iconst 1, 1) := by decide +kernel
theorem dX9_deletes_143 : decode cX9_deletes 143 = .ok (.iand, 1) := by decide +kernel
theorem dX9_deletes_144 : decode cX9_deletes 144 = .ok (.invokevirtual 334, 3) := by decide +kernel
theorem dX9_deletes_147 : decode cX9_deletes 147 = .ok (.iinc 8 1, 3) := by decide +kernel
theorem dX9_deletes_150 : decode cX9_deletes 150 = .ok (.goto (-30), 3) := by decide +kernel
theorem dX9_deletes_153 : decode cX9_deletes 153 = .ok (.iconst 0, 1) := by decide +kernel
theorem dX9_deletes_154 : decode cX9_deletes 154 = .ok (.istore 8, 2) := by decide +kernel
theorem dX9_deletes_156 : decode cX9_deletes 156 = .ok (.iload 8, 2) := by decide +kernel
theorem dX9_deletes_158 : decode cX9_deletes 158 = .ok (.iload_n 2, 1) := by decide +kernel
theorem dX9_deletes_159 : decode cX9_deletes 159 = .ok (.if_icmp .ge 14, 3) := by decide +kernel
theorem dX9_deletes_162 : decode cX9_deletes 162 = .ok (.aload_n 0, 1) := by decide +kernel
theorem dX9_deletes_163 : decode cX9_deletes 163 = .ok (.invokevirtual 402, 3) := by decide +kernel
theorem dX9_deletes_166 : decode cX9_deletes 166 = .ok (.pop, 1) := by decide +kernel
theorem dX9_deletes_167 : decode cX9_deletes 167 = .ok (.iinc 8 1, 3) := by decide +kernel
theorem dX9_deletes_170 : decode cX9_deletes 170 = .ok (.goto (-14), 3) := by decide +kernel
theorem dX9_deletes_173 : decode cX9_deletes 173 = .ok (.aload_n 0, 1) := by decide +kernel
theorem dX9_deletes_174 : decode cX9_deletes 174 = .ok (.getfield 7, 3) := by decide +kernel
theorem dX9_deletes_177 : decode cX9_deletes 177 = .ok (.iconst 5, 1) := by decide +kernel
theorem dX9_deletes_178 : decode cX9_deletes 178 = .ok (.iload_n 1, 1) := by decide +kernel
theorem dX9_deletes_179 : decode cX9_deletes 179 = .ok (.isub, 1) := by decide +kernel
theorem dX9_deletes_180 : decode cX9_deletes 180 = .ok (.iaload, 1) := by decide +kernel
theorem dX9_deletes_181 : decode cX9_deletes 181 = .ok (.istore 8, 2) := by decide +kernel
theorem dX9_deletes_183 : decode cX9_deletes 183 = .ok (.aload_n 0, 1) := by decide +kernel
theorem dX9_deletes_184 : decode cX9_deletes 184 = .ok (.invokevirtual 411, 3) := by decide +kernel
theorem dX9_deletes_187 : decode cX9_deletes 187 = .ok (.iload 8, 2) := by decide +kernel
theorem dX9_deletes_189 : decode cX9_deletes 189 = .ok (.iload 6, 2) := by decide +kernel
theorem dX9_deletes_191 : decode cX9_deletes 191 = .ok (.if_icmp .gt 40, 3) := by decide +kernel
theorem dX9_deletes_194 : decode cX9_deletes 194 = .ok (.iload 8, 2) := by decide +kernel
theorem dX9_deletes_196 : decode cX9_deletes 196 = .ok (.iload 6, 2) := by decide +kernel
theorem dX9_deletes_198 : decode cX9_deletes 198 = .ok (.if_icmp .ne 25, 3) := by decide +kernel
theorem dX9_deletes_201 : decode cX9_deletes 201 = .ok (.iload 5, 2) := by decide +kernel
theorem dX9_deletes_203 : decode cX9_deletes 203 = .ok (.iconst (-1), 1) := by decide +kernel
theorem dX9_deletes_204 : decode cX9_deletes 204 = .ok (.if_icmp .eq 19, 3) := by decide +kernel
theorem dX9_deletes_207 : decode cX9_deletes 207 = .ok (.iload 7, 2) := by decide +kernel
theorem dX9_deletes_209 : decode cX9_deletes 209 = .ok (.invokestatic 415, 3) := by decide +kernel
theorem dX9_deletes_212 : decode cX9_deletes 212 = .ok (.iload 5, 2) := by decide +kernel
theorem dX9_deletes_214 : decode cX9_deletes 214 = .ok (.invokestatic 415, 3) := by decide +kernel
theorem dX9_deletes_217 : decode cX9_deletes 217 = .ok (.if_icmp .lt 6, 3) := by decide +kernel
theorem dX9_deletes_220 : decode cX9_deletes 220 = .ok (.goto 11, 3) := by decide +kernel
theorem dX9_deletes_223 : decode cX9_deletes 223 = .ok (.iload 8, 2) := by decide +kernel
theorem dX9_deletes_225 : decode cX9_deletes 225 = .ok (.istore 6, 2) := by decide +kernel
theorem dX9_deletes_227 : decode cX9_deletes 227 = .ok (.iload 7, 2) := by decide +kernel
theorem dX9_deletes_229 : decode cX9_deletes 229 = .ok (.istore 5, 2) := by decide +kernel
theorem dX9_deletes_231 : decode cX9_deletes 231 = .ok (.iinc 7 1, 3) := by decide +kernel
theorem dX9_deletes_234 : decode cX9_deletes 234 = .ok (.goto (-126), 3) := by decide +kernel
theorem dX9_deletes_237 : decode cX9_deletes 237 = .ok (.iload_n 3, 1) := by decide +kernel
theorem dX9_deletes_238 : decode cX9_deletes 238 = .ok (.ifCond .ne 8, 3) := by decide +kernel
theorem dX9_deletes_241 : decode cX9_deletes 241 = .ok (.iload 6, 2) := by decide +kernel
theorem dX9_deletes_243 : decode cX9_deletes 243 = .ok (.goto 5, 3) := by decide +kernel
theorem dX9_deletes_246 : decode cX9_deletes 246 = .ok (.iload 5, 2) := by decide +kernel
theorem dX9_deletes_248 : decode cX9_deletes 248 = .ok (.ireturn, 1) := by decide +kernel
theorem dX9_count_0 : decode cX9_count 0 = .ok (.iconst 0, 1) := by decide +kernel
theorem dX9_count_1 : decode cX9_count 1 = .ok (.istore_n 1, 1) := by decide +kernel
theorem dX9_count_2 : decode cX9_count 2 = .ok (.iconst 0, 1) := by decide +kernel
theorem dX9_count_3 : decode cX9_count 3 = .ok (.istore_n 2, 1) := by decide +kernel
theorem dX9_count_4 : decode cX9_count 4 = .ok (.iload_n 2, 1) := by decide +kernel
theorem dX9_count_5 : decode cX9_count 5 = .ok (.bipush 16, 2) := by decide +kernel
theorem dX9_count_7 : decode cX9_count 7 = .ok (.if_icmp .ge 17, 3) := by decide +kernel
theorem dX9_count_10 : decode cX9_count 10 = .ok (.iload_n 1, 1) := by decide +kernel
theorem dX9_count_11 : decode cX9_count 11 = .ok (.iload_n 0, 1) := by decide +kernel
theorem dX9_count_12 : decode cX9_count 12 = .ok (.iload_n 2, 1) := by decide +kernel
theorem dX9_count_13 : decode cX9_count 13 = .ok (.ishr, 1) := by decide +kernel
theorem dX9_count_14 : decode cX9_count 14 = .ok (.iconst 1, 1) := by decide +kernel
theorem dX9_count_15 : decode cX9_count 15 = .ok (.iand, 1) := by decide +kernel
theorem dX9_count_16 : decode cX9_count 16 = .ok (.iadd, 1) := by decide +kernel
theorem dX9_count_17 : decode cX9_count 17 = .ok (.istore_n 1, 1) := by decide +kernel
theorem dX9_count_18 : decode cX9_count 18 = .ok (.iinc 2 1, 3) := by decide +kernel
theorem dX9_count_21 : decode cX9_count 21 = .ok (.goto (-17), 3) := by decide +kernel
theorem dX9_count_24 : decode cX9_count 24 = .ok (.iload_n 1, 1) := by decide +kernel
theorem dX9_count_25 : decode cX9_count 25 = .ok (.ireturn, 1) := by decide +kernel
theorem dX9_ease_0 : decode cX9_ease 0 = .ok (.iload_n 1, 1) := by decide +kernel
theorem dX9_ease_1 : decode cX9_ease 1 = .ok (.invokestatic 91, 3) := by decide +kernel
theorem dX9_ease_4 : decode cX9_ease 4 = .ok (.ifCond .eq 23, 3) := by decide +kernel
theorem dX9_ease_7 : decode cX9_ease 7 = .ok (.iload_n 2, 1) := by decide +kernel
theorem dX9_ease_8 : decode cX9_ease 8 = .ok (.iconst 1, 1) := by decide +kernel
theorem dX9_ease_9 : decode cX9_ease 9 = .ok (.sipush 300, 3) := by decide +kernel
theorem dX9_ease_12 : decode cX9_ease 12 = .ok (.invokestatic 72, 3) := by decide +kernel
theorem dX9_ease_15 : decode cX9_ease 15 = .ok (.ifCond .eq 12, 3) := by decide +kernel
theorem dX9_ease_18 : decode cX9_ease 18 = .ok (.iload_n 3, 1) := by decide +kernel
theorem dX9_ease_19 : decode cX9_ease 19 = .ok (.iconst 0, 1) := by decide +kernel
theorem dX9_ease_20 : decode cX9_ease 20 = .ok (.iconst 1, 1) := by decide +kernel
theorem dX9_ease_21 : decode cX9_ease 21 = .ok (.invokestatic 72, 3) := by decide +kernel
theorem dX9_ease_24 : decode cX9_ease 24 = .ok (.ifCond .ne 5, 3) := by decide +kernel
theorem dX9_ease_27 : decode cX9_ease 27 = .ok (.iconst (-1), 1) := by decide +kernel
theorem dX9_ease_28 : decode cX9_ease 28 = .ok (.ireturn, 1) := by decide +kernel
theorem dX9_ease_29 : decode cX9_ease 29 = .ok (.iconst (-1), 1) := by decide +kernel
theorem dX9_ease_30 : decode cX9_ease 30 = .ok (.istore 4, 2) := by decide +kernel
theorem dX9_ease_32 : decode cX9_ease 32 = .ok (.ldc_w 414, 3) := by decide +kernel
theorem dX9_ease_35 : decode cX9_ease 35 = .ok (.istore 5, 2) := by decide +kernel
theorem dX9_ease_37 : decode cX9_ease 37 = .ok (.iconst 1, 1) := by decide +kernel
theorem dX9_ease_38 : decode cX9_ease 38 = .ok (.istore 6, 2) := by decide +kernel
theorem dX9_ease_40 : decode cX9_ease 40 = .ok (.iload 6, 2) := by decide +kernel
theorem dX9_ease_42 : decode cX9_ease 42 = .ok (.sipush 256, 3) := by decide +kernel
theorem dX9_ease_45 : decode cX9_ease 45 = .ok (.if_icmp .gt 84, 3) := by decide +kernel
theorem dX9_ease_48 : decode cX9_ease 48 = .ok (.aload_n 0, 1) := by decide +kernel
theorem dX9_ease_49 : decode cX9_ease 49 = .ok (.invokevirtual 405, 3) := by decide +kernel
theorem dX9_ease_52 : decode cX9_ease 52 = .ok (.aload_n 0, 1) := by decide +kernel
theorem dX9_ease_53 : decode cX9_ease 53 = .ok (.iload_n 1, 1) := by decide +kernel
theorem dX9_ease_54 : decode cX9_ease 54 = .ok (.putfield 44, 3) := by decide +kernel
theorem dX9_ease_57 : decode cX9_ease 57 = .ok (.aload_n 0, 1) := by decide +kernel
theorem dX9_ease_58 : decode cX9_ease 58 = .ok (.iload 6, 2) := by decide +kernel
theorem dX9_ease_60 : decode cX9_ease 60 = .ok (.putfield 376, 3) := by decide +kernel
theorem dX9_ease_63 : decode cX9_ease 63 = .ok (.iconst 0, 1) := by decide +kernel
theorem dX9_ease_64 : decode cX9_ease 64 = .ok (.istore 7, 2) := by decide +kernel
theorem dX9_ease_66 : decode cX9_ease 66 = .ok (.iload 7, 2) := by decide +kernel
theorem dX9_ease_68 : decode cX9_ease 68 = .ok (.iload_n 2, 1) := by decide +kernel
theorem dX9_ease_69 : decode cX9_ease 69 = .ok (.if_icmp .ge 14, 3) := by decide +kernel
theorem dX9_ease_72 : decode cX9_ease 72 = .ok (.aload_n 0, 1) := by decide +kernel
theorem dX9_ease_73 : decode cX9_ease 73 = .ok (.invokevirtual 402, 3) := by decide +kernel
theorem dX9_ease_76 : decode cX9_ease 76 = .ok (.pop, 1) := by decide +kernel
theorem dX9_ease_77 : decode cX9_ease 77 = .ok (.iinc 7 1, 3) := by decide +kernel
theorem dX9_ease_80 : decode cX9_ease 80 = .ok (.goto (-14), 3) := by decide +kernel
theorem dX9_ease_83 : decode cX9_ease 83 = .ok (.aload_n 0, 1) := by decide +kernel
theorem dX9_ease_84 : decode cX9_ease 84 = .ok (.getfield 7, 3) := by decide +kernel
theorem dX9_ease_87 : decode cX9_ease 87 = .ok (.iconst 4, 1) := by decide +kernel
theorem dX9_ease_88 : decode cX9_ease 88 = .ok (.iaload, 1) := by decide +kernel
theorem dX9_ease_89 : decode cX9_ease 89 = .ok (.aload_n 0, 1) := by decide +kernel
theorem dX9_ease_90 : decode cX9_ease 90 = .ok (.getfield 7, 3) := by decide +kernel
theorem dX9_ease_93 : decode cX9_ease 93 = .ok (.iconst 5, 1) := by decide +kernel
theorem dX9_ease_94 : decode cX9_ease 94 = .ok (.iaload, 1) := by decide +kernel
theorem dX9_ease_95 : decode cX9_ease 95 = .ok (.iadd, 1) := by decide +kernel
theorem dX9_ease_96 : decode cX9_ease 96 = .ok (.istore 7, 2) := by decide +kernel
theorem dX9_ease_98 : decode cX9_ease 98 = .ok (.aload_n 0, 1) := by decide +kernel
theorem dX9_ease_99 : decode cX9_ease 99 = .ok (.invokevirtual 411, 3) := by decide +kernel
theorem dX9_ease_102 : decode cX9_ease 102 = .ok (.iload 7, 2) := by decide +kernel
theorem dX9_ease_104 : decode cX9_ease 104 = .ok (.iload 5, 2) := by decide +kernel
theorem dX9_ease_106 : decode cX9_ease 106 = .ok (.if_icmp .lt 6, 3) := by decide +kernel
theorem dX9_ease_109 : decode cX9_ease 109 = .ok (.goto 11, 3) := by decide +kernel
theorem dX9_ease_112 : decode cX9_ease 112 = .ok (.iload 7, 2) := by decide +kernel
theorem dX9_ease_114 : decode cX9_ease 114 = .ok (.istore 5, 2) := by decide +kernel
theorem dX9_ease_116 : decode cX9_ease 116 = .ok (.iload 6, 2) := by decide +kernel
theorem dX9_ease_118 : decode cX9_ease 118 = .ok (.istore 4, 2) := by decide +kernel
theorem dX9_ease_120 : decode cX9_ease 120 = .ok (.iload 6, 2) := by decide +kernel
theorem dX9_ease_122 : decode cX9_ease 122 = .ok (.iconst 2, 1) := by decide +kernel
theorem dX9_ease_123 : decode cX9_ease 123 = .ok (.imul, 1) := by decide +kernel
theorem dX9_ease_124 : decode cX9_ease 124 = .ok (.istore 6, 2) := by decide +kernel
theorem dX9_ease_126 : decode cX9_ease 126 = .ok (.goto (-86), 3) := by decide +kernel
theorem dX9_ease_129 : decode cX9_ease 129 = .ok (.aload_n 0, 1) := by decide +kernel
theorem dX9_ease_130 : decode cX9_ease 130 = .ok (.iconst (-1), 1) := by decide +kernel
theorem dX9_ease_131 : decode cX9_ease 131 = .ok (.putfield 44, 3) := by decide +kernel
theorem dX9_ease_134 : decode cX9_ease 134 = .ok (.iload_n 3, 1) := by decide +kernel
theorem dX9_ease_135 : decode cX9_ease 135 = .ok (.ifCond .ne 8, 3) := by decide +kernel
theorem dX9_ease_138 : decode cX9_ease 138 = .ok (.iload 4, 2) := by decide +kernel
theorem dX9_ease_140 : decode cX9_ease 140 = .ok (.goto 5, 3) := by decide +kernel
theorem dX9_ease_143 : decode cX9_ease 143 = .ok (.iload 5, 2) := by decide +kernel
theorem dX9_ease_145 : decode cX9_ease 145 = .ok (.ireturn, 1) := by decide +kernel
theorem dX9_copies_0 : decode cX9_copies 0 = .ok (.iload_n 1, 1) := by decide +kernel
theorem dX9_copies_1 : decode cX9_copies 1 = .ok (.iconst 0, 1) := by decide +kernel
theorem dX9_copies_2 : decode cX9_copies 2 = .ok (.sipush 999, 3) := by decide +kernel
theorem dX9_copies_5 : decode cX9_copies 5 = .ok (.invokestatic 72, 3) := by decide +kernel
theorem dX9_copies_8 : decode cX9_copies 8 = .ok (.ifCond .eq 22, 3) := by decide +kernel
theorem dX9_copies_11 : decode cX9_copies 11 = .ok (.iload_n 2, 1) := by decide +kernel
theorem dX9_copies_12 : decode cX9_copies 12 = .ok (.iconst 1, 1) := by decide +kernel
theorem dX9_copies_13 : decode cX9_copies 13 = .ok (.bipush 99, 2) := by decide +kernel
theorem dX9_copies_15 : decode cX9_copies 15 = .ok (.invokestatic 72, 3) := by decide +kernel
theorem dX9_copies_18 : decode cX9_copies 18 = .ok (.ifCond .eq 12, 3) := by decide +kernel
theorem dX9_copies_21 : decode cX9_copies 21 = .ok (.iload_n 3, 1) := by decide +kernel
theorem dX9_copies_22 : decode cX9_copies 22 = .ok (.iconst 0, 1) := by decide +kernel
theorem dX9_copies_23 : decode cX9_copies 23 = .ok (.iconst 2, 1) := by decide +kernel
theorem dX9_copies_24 : decode cX9_copies 24 = .ok (.invokestatic 72, 3) := by decide +kernel
theorem dX9_copies_27 : decode cX9_copies 27 = .ok (.ifCond .ne 5, 3) := by decide +kernel
theorem dX9_copies_30 : decode cX9_copies 30 = .ok (.iconst (-1), 1) := by decide +kernel
theorem dX9_copies_31 : decode cX9_copies 31 = .ok (.ireturn, 1) := by decide +kernel
theorem dX9_copies_32 : decode cX9_copies 32 = .ok (.aload_n 0, 1) := by decide +kernel
theorem dX9_copies_33 : decode cX9_copies 33 = .ok (.getfield 50, 3) := by decide +kernel
theorem dX9_copies_36 : decode cX9_copies 36 = .ok (.iconst 0, 1) := by decide +kernel
theorem dX9_copies_37 : decode cX9_copies 37 = .ok (.iload_n 1, 1) := by decide +kernel
theorem dX9_copies_38 : decode cX9_copies 38 = .ok (.iastore, 1) := by decide +kernel
theorem dX9_copies_39 : decode cX9_copies 39 = .ok (.iconst 0, 1) := by decide +kernel
theorem dX9_copies_40 : decode cX9_copies 40 = .ok (.istore 4, 2) := by decide +kernel
theorem dX9_copies_42 : decode cX9_copies 42 = .ok (.iconst (-1), 1) := by decide +kernel
theorem dX9_copies_43 : decode cX9_copies 43 = .ok (.istore 5, 2) := by decide +kernel
theorem dX9_copies_45 : decode cX9_copies 45 = .ok (.iconst (-1), 1) := by decide +kernel
theorem dX9_copies_46 : decode cX9_copies 46 = .ok (.istore 6, 2) := by decide +kernel
theorem dX9_copies_48 : decode cX9_copies 48 = .ok (.iconst 1, 1) := by decide +kernel
theorem dX9_copies_49 : decode cX9_copies 49 = .ok (.istore 7, 2) := by decide +kernel
theorem dX9_copies_51 : decode cX9_copies 51 = .ok (.iload 7, 2) := by decide +kernel
theorem dX9_copies_53 : decode cX9_copies 53 = .ok (.bipush 60, 2) := by decide +kernel
theorem dX9_copies_55 : decode cX9_copies 55 = .ok (.if_icmp .gt 126, 3) := by decide +kernel
theorem dX9_copies_58 : decode cX9_copies 58 = .ok (.aload_n 0, 1) := by decide +kernel
theorem dX9_copies_59 : decode cX9_copies 59 = .ok (.iload 7, 2) := by decide +kernel
theorem dX9_copies_61 : decode cX9_copies 61 = .ok (.iconst 1, 1) := by decide +kernel
theorem dX9_copies_62 : decode cX9_copies 62 = .ok (.isub, 1) := by decide +kernel
theorem dX9_copies_63 : decode cX9_copies 63 = .ok (.iconst 2, 1) := by decide +kernel
theorem dX9_copies_64 : decode cX9_copies 64 = .ok (.irem, 1) := by decide +kernel
theorem dX9_copies_65 : decode cX9_copies 65 = .ok (.iload_n 2, 1) := by decide +kernel
theorem dX9_copies_66 : decode cX9_copies 66 = .ok (.iconst 0, 1) := by decide +kernel
theorem dX9_copies_67 : decode cX9_copies 67 = .ok (.iconst 0, 1) := by decide +kernel
theorem dX9_copies_68 : decode cX9_copies 68 = .ok (.invokevirtual 323, 3) := by decide +kernel
theorem dX9_copies_71 : decode cX9_copies 71 = .ok (.aload_n 0, 1) := by decide +kernel
theorem dX9_copies_72 : decode cX9_copies 72 = .ok (.getfield 37, 3) := by decide +kernel
theorem dX9_copies_75 : decode cX9_copies 75 = .ok (.iconst 3, 1) := by decide +kernel
theorem dX9_copies_76 : decode cX9_copies 76 = .ok (.aload_n 0, 1) := by decide +kernel
theorem dX9_copies_77 : decode cX9_copies 77 = .ok (.getfield 50, 3) := by decide +kernel
theorem dX9_copies_80 : decode cX9_copies 80 = .ok (.iload 7, 2) := by decide +kernel
theorem dX9_copies_82 : decode cX9_copies 82 = .ok (.iconst 1, 1) := by decide +kernel
theorem dX9_copies_83 : decode cX9_copies 83 = .ok (.isub, 1) := by decide +kernel
theorem dX9_copies_84 : decode cX9_copies 84 = .ok (.iaload, 1) := by decide +kernel
theorem dX9_copies_85 : decode cX9_copies 85 = .ok (.iastore, 1) := by decide +kernel
theorem dX9_copies_86 : decode cX9_copies 86 = .ok (.aload_n 0, 1) := by decide +kernel
theorem dX9_copies_87 : decode cX9_copies 87 = .ok (.getfield 50, 3) := by decide +kernel
theorem dX9_copies_90 : decode cX9_copies 90 = .ok (.iload 7, 2) := by decide +kernel
theorem dX9_copies_92 : decode cX9_copies 92 = .ok (.aload_n 0, 1) := by decide +kernel
theorem dX9_copies_93 : decode cX9_copies 93 = .ok (.invokevirtual 379, 3) := by decide +kernel
theorem dX9_copies_96 : decode cX9_copies 96 = .ok (.iastore, 1) := by decide +kernel
theorem dX9_copies_97 : decode cX9_copies 97 = .ok (.iload 4, 2) := by decide +kernel
theorem dX9_copies_99 : decode cX9_copies 99 = .ok (.aload_n 0, 1) := by decide +kernel
theorem dX9_copies_100 : decode cX9_copies 100 = .ok (.getfield 50, 3) := by decide +kernel
theorem dX9_copies_103 : decode cX9_copies 103 = .ok (.iload 7, 2) := by decide +kernel
theorem dX9_copies_105 : decode cX9_copies 105 = .ok (.iaload, 1) := by decide +kernel
theorem dX9_copies_106 : decode cX9_copies 106 = .ok (.invokestatic 69, 3) := by decide +kernel
theorem dX9_copies_109 : decode cX9_copies 109 = .ok (.istore 4, 2) := by decide +kernel
theorem dX9_copies_111 : decode cX9_copies 111 = .ok (.iconst 1, 1) := by decide +kernel
theorem dX9_copies_112 : decode cX9_copies 112 = .ok (.istore 8, 2) := by decide +kernel
theorem dX9_copies_114 : decode cX9_copies 114 = .ok (.iload 8, 2) := by decide +kernel
theorem dX9_copies_116 : decode cX9_copies 116 = .ok (.iload 7, 2) := by decide +kernel
theorem dX9_copies_118 : decode cX9_copies 118 = .ok (.if_icmp .ge 57, 3) := by decide +kernel
theorem dX9_copies_121 : decode cX9_copies 121 = .ok (.iload 5, 2) := by decide +kernel
theorem dX9_copies_123 : decode cX9_copies 123 = .ok (.iconst (-1), 1) := by decide +kernel
theorem dX9_copies_124 : decode cX9_copies 124 = .ok (.if_icmp .ne 51, 3) := by decide +kernel
theorem dX9_copies_127 : decode cX9_copies 127 = .ok (.iload 7, 2) := by decide +kernel
theorem dX9_copies_129 : decode cX9_copies 129 = .ok (.iload 8, 2) := by decide +kernel
theorem dX9_copies_131 : decode cX9_copies 131 = .ok (.isub, 1) := by decide +kernel
theorem dX9_copies_132 : decode cX9_copies 132 = .ok (.iconst 2, 1) := by decide +kernel
theorem dX9_copies_133 : decode cX9_copies 133 = .ok (.irem, 1) := by decide +kernel
theorem dX9_copies_134 : decode cX9_copies 134 = .ok (.iconst 1, 1) := by decide +kernel
theorem dX9_copies_135 : decode cX9_copies 135 = .ok (.if_icmp .eq 34, 3) := by decide +kernel
theorem dX9_copies_138 : decode cX9_copies 138 = .ok (.aload_n 0, 1) := by decide +kernel
theorem dX9_copies_139 : decode cX9_copies 139 = .ok (.getfield 50, 3) := by decide +kernel
theorem dX9_copies_142 : decode cX9_copies 142 = .ok (.iload 8, 2) := by decide +kernel
theorem dX9_copies_144 : decode cX9_copies 144 = .ok (.iaload, 1) := by decide +kernel
theorem dX9_copies_145 : decode cX9_copies 145 = .ok (.aload_n 0, 1) := by decide +kernel
theorem dX9_copies_146 : decode cX9_copies 146 = .ok (.getfield 50, 3) := by decide +kernel
theorem dX9_copies_149 : decode cX9_copies 149 = .ok (.iload 7, 2) := by decide +kernel
theorem dX9_copies_151 : decode cX9_copies 151 = .ok (.iaload, 1) := by decide +kernel
theorem dX9_copies_152 : decode cX9_copies 152 = .ok (.if_icmp .eq 6, 3) := by decide +kernel
theorem dX9_copies_155 : decode cX9_copies 155 = .ok (.goto 14, 3) := by decide +kernel
theorem dX9_copies_158 : decode cX9_copies 158 = .ok (.iload 7, 2) := by decide +kernel
theorem dX9_copies_160 : decode cX9_copies 160 = .ok (.istore 5, 2) := by decide +kernel
theorem dX9_copies_162 : decode cX9_copies 162 = .ok (.iload 7, 2) := by decide +kernel
theorem dX9_copies_164 : decode cX9_copies 164 = .ok (.iload 8, 2) := by decide +kernel
theorem dX9_copies_166 : decode cX9_copies 166 = .ok (.isub, 1) := by decide +kernel
theorem dX9_copies_167 : decode cX9_copies 167 = .ok (.istore 6, 2) := by decide +kernel
theorem dX9_copies_169 : decode cX9_copies 169 = .ok (.iinc 8 1, 3) := by decide +kernel
theorem dX9_copies_172 : decode cX9_copies 172 = .ok (.goto (-58), 3) := by decide +kernel
theorem dX9_copies_175 : decode cX9_copies 175 = .ok (.iinc 7 1, 3) := by decide +kernel
theorem dX9_copies_178 : decode cX9_copies 178 = .ok (.goto (-127), 3) := by decide +kernel
theorem dX9_copies_181 : decode cX9_copies 181 = .ok (.iload_n 3, 1) := by decide +kernel
theorem dX9_copies_182 : decode cX9_copies 182 = .ok (.ifCond .ne 8, 3) := by decide +kernel
theorem dX9_copies_185 : decode cX9_copies 185 = .ok (.iload 5, 2) := by decide +kernel
theorem dX9_copies_187 : decode cX9_copies 187 = .ok (.goto 15, 3) := by decide +kernel
theorem dX9_copies_190 : decode cX9_copies 190 = .ok (.iload_n 3, 1) := by decide +kernel
theorem dX9_copies_191 : decode cX9_copies 191 = .ok (.iconst 1, 1) := by decide +kernel
theorem dX9_copies_192 : decode cX9_copies 192 = .ok (.if_icmp .ne 8, 3) := by decide +kernel
theorem dX9_copies_195 : decode cX9_copies 195 = .ok (.iload 6, 2) := by decide +kernel
theorem dX9_copies_197 : decode cX9_copies 197 = .ok (.goto 5, 3) := by decide +kernel
theorem dX9_copies_200 : decode cX9_copies 200 = .ok (.iload 4, 2) := by decide +kernel
theorem dX9_copies_202 : decode cX9_copies 202 = .ok (.ireturn, 1) := by decide +kernel
theorem dX9_mirrors_0 : decode cX9_mirrors 0 = .ok (.iload_n 1, 1) := by decide +kernel
theorem dX9_mirrors_1 : decode cX9_mirrors 1 = .ok (.iconst 1, 1) := by decide +kernel
theorem dX9_mirrors_2 : decode cX9_mirrors 2 = .ok (.bipush 99, 2) := by decide +kernel
theorem dX9_mirrors_4 : decode cX9_mirrors 4 = .ok (.invokestatic 72, 3) := by decide +kernel
theorem dX9_mirrors_7 : decode cX9_mirrors 7 = .ok (.ifCond .eq 12, 3) := by decide +kernel
theorem dX9_mirrors_10 : decode cX9_mirrors 10 = .ok (.iload_n 2, 1) := by decide +kernel
theorem dX9_mirrors_11 : decode cX9_mirrors 11 = .ok (.iconst 0, 1) := by decide +kernel
theorem dX9_mirrors_12 : decode cX9_mirrors 12 = .ok (.iconst 1, 1) := by decide +kernel
theorem dX9_mirrors_13 : decode cX9_mirrors 13 = .ok (.invokestatic 72, 3) := by decide +kernel
theorem dX9_mirrors_16 : decode cX9_mirrors 16 = .ok (.ifCond .ne 5, 3) := by decide +kernel
theorem dX9_mirrors_19 : decode cX9_mirrors 19 = .ok (.iconst (-1), 1) := by decide +kernel
theorem dX9_mirrors_20 : decode cX9_mirrors 20 = .ok (.ireturn, 1) := by decide +kernel
theorem dX9_mirrors_21 : decode cX9_mirrors 21 = .ok (.iload_n 1, 1) := by decide +kernel
theorem dX9_mirrors_22 : decode cX9_mirrors 22 = .ok (.istore_n 3, 1) := by decide +kernel
theorem dX9_mirrors_23 : decode cX9_mirrors 23 = .ok (.iconst 1, 1) := by decide +kernel
theorem dX9_mirrors_24 : decode cX9_mirrors 24 = .ok (.istore 4, 2) := by decide +kernel
theorem dX9_mirrors_26 : decode cX9_mirrors 26 = .ok (.iload 4, 2) := by decide +kernel
theorem dX9_mirrors_28 : decode cX9_mirrors 28 = .ok (.bipush 60, 2) := by decide +kernel
theorem dX9_mirrors_30 : decode cX9_mirrors 30 = .ok (.if_icmp .gt 49, 3) := by decide +kernel
theorem dX9_mirrors_33 : decode cX9_mirrors 33 = .ok (.aload_n 0, 1) := by decide +kernel
theorem dX9_mirrors_34 : decode cX9_mirrors 34 = .ok (.iload 4, 2) := by decide +kernel
theorem dX9_mirrors_36 : decode cX9_mirrors 36 = .ok (.iconst 1, 1) := by decide +kernel
theorem dX9_mirrors_37 : decode cX9_mirrors 37 = .ok (.isub, 1) := by decide +kernel
theorem dX9_mirrors_38 : decode cX9_mirrors 38 = .ok (.iconst 2, 1) := by decide +kernel
theorem dX9_mirrors_39 : decode cX9_mirrors 39 = .ok (.irem, 1) := by decide +kernel
theorem dX9_mirrors_40 : decode cX9_mirrors 40 = .ok (.iload_n 3, 1) := by decide +kernel
theorem dX9_mirrors_41 : decode cX9_mirrors 41 = .ok (.iconst 0, 1) := by decide +kernel
theorem dX9_mirrors_42 : decode cX9_mirrors 42 = .ok (.iconst 0, 1) := by decide +kernel
theorem dX9_mirrors_43 : decode cX9_mirrors 43 = .ok (.invokevirtual 323, 3) := by decide +kernel
theorem dX9_mirrors_46 : decode cX9_mirrors 46 = .ok (.aload_n 0, 1) := by decide +kernel
theorem dX9_mirrors_47 : decode cX9_mirrors 47 = .ok (.invokevirtual 382, 3) := by decide +kernel
theorem dX9_mirrors_50 : decode cX9_mirrors 50 = .ok (.istore 5, 2) := by decide +kernel
theorem dX9_mirrors_52 : decode cX9_mirrors 52 = .ok (.iload 5, 2) := by decide +kernel
theorem dX9_mirrors_54 : decode cX9_mirrors 54 = .ok (.iload_n 3, 1) := by decide +kernel
theorem dX9_mirrors_55 : decode cX9_mirrors 55 = .ok (.if_icmp .ne 15, 3) := by decide +kernel
theorem dX9_mirrors_58 : decode cX9_mirrors 58 = .ok (.iload_n 2, 1) := by decide +kernel
theorem dX9_mirrors_59 : decode cX9_mirrors 59 = .ok (.ifCond .ne 8, 3) := by decide +kernel
theorem dX9_mirrors_62 : decode cX9_mirrors 62 = .ok (.iload 4, 2) := by decide +kernel
theorem dX9_mirrors_64 : decode cX9_mirrors 64 = .ok (.goto 5, 3) := by decide +kernel
theorem dX9_mirrors_67 : decode cX9_mirrors 67 = .ok (.iload 5, 2) := by decide +kernel
theorem dX9_mirrors_69 : decode cX9_mirrors 69 = .ok (.ireturn, 1) := by decide +kernel
theorem dX9_mirrors_70 : decode cX9_mirrors 70 = .ok (.iload 5, 2) := by decide +kernel
theorem dX9_mirrors_72 : decode cX9_mirrors 72 = .ok (.istore_n 3, 1) := by decide +kernel
theorem dX9_mirrors_73 : decode cX9_mirrors 73 = .ok (.iinc 4 1, 3) := by decide +kernel
theorem dX9_mirrors_76 : decode cX9_mirrors 76 = .ok (.goto (-50), 3) := by decide +kernel
theorem dX9_mirrors_79 : decode cX9_mirrors 79 = .ok (.iload_n 2, 1) := by decide +kernel
theorem dX9_mirrors_80 : decode cX9_mirrors 80 = .ok (.ifCond .ne 7, 3) := by decide +kernel
theorem dX9_mirrors_83 : decode cX9_mirrors 83 = .ok (.iconst (-1), 1) := by decide +kernel
theorem dX9_mirrors_84 : decode cX9_mirrors 84 = .ok (.goto 4, 3) := by decide +kernel
theorem dX9_mirrors_87 : decode cX9_mirrors 87 = .ok (.iload_n 3, 1) := by decide +kernel
theorem dX9_mirrors_88 : decode cX9_mirrors 88 = .ok (.ireturn, 1) := by decide +kernel
theorem dX9_bySign_0 : decode cX9_bySign 0 = .ok (.iload 4, 2) := by decide +kernel
theorem dX9_bySign_2 : decode cX9_bySign 2 = .ok (.ifCond .eq 19, 3) := by decide +kernel
theorem dX9_bySign_5 : decode cX9_bySign 5 = .ok (.aload_n 0, 1) := by decide +kernel
theorem dX9_bySign_6 : decode cX9_bySign 6 = .ok (.getfield 7, 3) := by decide +kernel
theorem dX9_bySign_9 : decode cX9_bySign 9 = .ok (.sipush 699, 3) := by decide +kernel
theorem dX9_bySign_12 : decode cX9_bySign 12 = .ok (.iconst 2, 1) := by decide +kernel
theorem dX9_bySign_13 : decode cX9_bySign 13 = .ok (.iload_n 3, 1) := by decide +kernel
theorem dX9_bySign_14 : decode cX9_bySign 14 = .ok (.imul, 1) := by decide +kernel
theorem dX9_bySign_15 : decode cX9_bySign 15 = .ok (.iadd, 1) := by decide +kernel
theorem dX9_bySign_16 : decode cX9_bySign 16 = .ok (.iaload, 1) := by decide +kernel
theorem dX9_bySign_17 : decode cX9_bySign 17 = .ok (.i2l, 1) := by decide +kernel
theorem dX9_bySign_18 : decode cX9_bySign 18 = .ok (.goto 20, 3) := by decide +kernel
theorem dX9_bySign_21 : decode cX9_bySign 21 = .ok (.sipush 1000, 3) := by decide +kernel
theorem dX9_bySign_24 : decode cX9_bySign 24 = .ok (.aload_n 0, 1) := by decide +kernel
theorem dX9_bySign_25 : decode cX9_bySign 25 = .ok (.getfield 7, 3) := by decide +kernel
theorem dX9_bySign_28 : decode cX9_bySign 28 = .ok (.sipush 699, 3) := by decide +kernel
theorem dX9_bySign_31 : decode cX9_bySign 31 = .ok (.iconst 2, 1) := by decide +kernel
theorem dX9_bySign_32 : decode cX9_bySign 32 = .ok (.iload_n 3, 1) := by decide +kernel
theorem dX9_bySign_33 : decode cX9_bySign 33 = .ok (.imul, 1) := by decide +kernel
theorem dX9_bySign_34 : decode cX9_bySign 34 = .ok (.iadd, 1) := by decide +kernel
theorem dX9_bySign_35 : decode cX9_bySign 35 = .ok (.iaload, 1) := by decide +kernel
theorem dX9_bySign_36 : decode cX9_bySign 36 = .ok (.isub, 1) := by decide +kernel
theorem dX9_bySign_37 : decode cX9_bySign 37 = .ok (.i2l, 1) := by decide +kernel
theorem dX9_bySign_38 : decode cX9_bySign 38 = .ok (.lstore 5, 2) := by decide +kernel
theorem dX9_bySign_40 : decode cX9_bySign 40 = .ok (.iload 4, 2) := by decide +kernel
theorem dX9_bySign_42 : decode cX9_bySign 42 = .ok (.ifCond .eq 21, 3) := by decide +kernel
theorem dX9_bySign_45 : decode cX9_bySign 45 = .ok (.aload_n 0, 1) := by decide +kernel
theorem dX9_bySign_46 : decode cX9_bySign 46 = .ok (.getfield 7, 3) := by decide +kernel
theorem dX9_bySign_49 : decode cX9_bySign 49 = .ok (.sipush 699, 3) := by decide +kernel
theorem dX9_bySign_52 : decode cX9_bySign 52 = .ok (.iconst 2, 1) := by decide +kernel
theorem dX9_bySign_53 : decode cX9_bySign 53 = .ok (.iload_n 3, 1) := by decide +kernel
theorem dX9_bySign_54 : decode cX9_bySign 54 = .ok (.imul, 1) := by decide +kernel
theorem dX9_bySign_55 : decode cX9_bySign 55 = .ok (.iadd, 1) := by decide +kernel
theorem dX9_bySign_56 : decode cX9_bySign 56 = .ok (.iconst 1, 1) := by decide +kernel
theorem dX9_bySign_57 : decode cX9_bySign 57 = .ok (.iadd, 1) := by decide +kernel
theorem dX9_bySign_58 : decode cX9_bySign 58 = .ok (.iaload, 1) := by decide +kernel
theorem dX9_bySign_59 : decode cX9_bySign 59 = .ok (.i2l, 1) := by decide +kernel
theorem dX9_bySign_60 : decode cX9_bySign 60 = .ok (.goto 22, 3) := by decide +kernel
theorem dX9_bySign_63 : decode cX9_bySign 63 = .ok (.sipush 1000, 3) := by decide +kernel
theorem dX9_bySign_66 : decode cX9_bySign 66 = .ok (.aload_n 0, 1) := by decide +kernel
theorem dX9_bySign_67 : decode cX9_bySign 67 = .ok (.getfield 7, 3) := by decide +kernel
theorem dX9_bySign_70 : decode cX9_bySign 70 = .ok (.sipush 699, 3) := by decide +kernel
theorem dX9_bySign_73 : decode cX9_bySign 73 = .ok (.iconst 2, 1) := by decide +kernel
theorem dX9_bySign_74 : decode cX9_bySign 74 = .ok (.iload_n 3, 1) := by decide +kernel
theorem dX9_bySign_75 : decode cX9_bySign 75 = .ok (.imul, 1) := by decide +kernel
theorem dX9_bySign_76 : decode cX9_bySign 76 = .ok (.iadd, 1) := by decide +kernel
theorem dX9_bySign_77 : decode cX9_bySign 77 = .ok (.iconst 1, 1) := by decide +kernel
theorem dX9_bySign_78 : decode cX9_bySign 78 = .ok (.iadd, 1) := by decide +kernel
theorem dX9_bySign_79 : decode cX9_bySign 79 = .ok (.iaload, 1) := by decide +kernel
theorem dX9_bySign_80 : decode cX9_bySign 80 = .ok (.isub, 1) := by decide +kernel
theorem dX9_bySign_81 : decode cX9_bySign 81 = .ok (.i2l, 1) := by decide +kernel
theorem dX9_bySign_82 : decode cX9_bySign 82 = .ok (.lstore 7, 2) := by decide +kernel
theorem dX9_bySign_84 : decode cX9_bySign 84 = .ok (.ldc2_w 418, 3) := by decide +kernel
theorem dX9_bySign_87 : decode cX9_bySign 87 = .ok (.lload_n 1, 1) := by decide +kernel
theorem dX9_bySign_88 : decode cX9_bySign 88 = .ok (.lload 7, 2) := by decide +kernel
theorem dX9_bySign_90 : decode cX9_bySign 90 = .ok (.lmul, 1) := by decide +kernel
theorem dX9_bySign_91 : decode cX9_bySign 91 = .ok (.lmul, 1) := by decide +kernel
theorem dX9_bySign_92 : decode cX9_bySign 92 = .ok (.lload_n 1, 1) := by decide +kernel
theorem dX9_bySign_93 : decode cX9_bySign 93 = .ok (.lload 7, 2) := by decide +kernel
theorem dX9_bySign_95 : decode cX9_bySign 95 = .ok (.lmul, 1) := by decide +kernel
theorem dX9_bySign_96 : decode cX9_bySign 96 = .ok (.ldc2_w 418, 3) := by decide +kernel
theorem dX9_bySign_99 : decode cX9_bySign 99 = .ok (.lload_n 1, 1) := by decide +kernel
theorem dX9_bySign_100 : decode cX9_bySign 100 = .ok (.lsub, 1) := by decide +kernel
theorem dX9_bySign_101 : decode cX9_bySign 101 = .ok (.lload 5, 2) := by decide +kernel
theorem dX9_bySign_103 : decode cX9_bySign 103 = .ok (.lmul, 1) := by decide +kernel
theorem dX9_bySign_104 : decode cX9_bySign 104 = .ok (.ladd, 1) := by decide +kernel
theorem dX9_bySign_105 : decode cX9_bySign 105 = .ok (.ldiv, 1) := by decide +kernel
theorem dX9_bySign_106 : decode cX9_bySign 106 = .ok (.lreturn, 1) := by decide +kernel
theorem dX9_areSigns_0 : decode cX9_areSigns 0 = .ok (.iload_n 1, 1) := by decide +kernel
theorem dX9_areSigns_1 : decode cX9_areSigns 1 = .ok (.iconst 0, 1) := by decide +kernel
theorem dX9_areSigns_2 : decode cX9_areSigns 2 = .ok (.iconst 1, 1) := by decide +kernel
theorem dX9_areSigns_3 : decode cX9_areSigns 3 = .ok (.aload_n 0, 1) := by decide +kernel
theorem dX9_areSigns_4 : decode cX9_areSigns 4 = .ok (.getfield 7, 3) := by decide +kernel
theorem dX9_areSigns_7 : decode cX9_areSigns 7 = .ok (.sipush 553, 3) := by decide +kernel
theorem dX9_areSigns_10 : decode cX9_areSigns 10 = .ok (.iaload, 1) := by decide +kernel
theorem dX9_areSigns_11 : decode cX9_areSigns 11 = .ok (.ishl, 1) := by decide +kernel
theorem dX9_areSigns_12 : decode cX9_areSigns 12 = .ok (.iconst 1, 1) := by decide +kernel
theorem dX9_areSigns_13 : decode cX9_areSigns 13 = .ok (.isub, 1) := by decide +kernel
theorem dX9_areSigns_14 : decode cX9_areSigns 14 = .ok (.invokestatic 72, 3) := by decide +kernel
theorem dX9_areSigns_17 : decode cX9_areSigns 17 = .ok (.ireturn, 1) := by decide +kernel
theorem dX9_sure_0 : decode cX9_sure 0 = .ok (.iload_n 1, 1) := by decide +kernel
theorem dX9_sure_1 : decode cX9_sure 1 = .ok (.iconst 0, 1) := by decide +kernel
theorem dX9_sure_2 : decode cX9_sure 2 = .ok (.sipush 1000, 3) := by decide +kernel
theorem dX9_sure_5 : decode cX9_sure 5 = .ok (.invokestatic 72, 3) := by decide +kernel
theorem dX9_sure_8 : decode cX9_sure 8 = .ok (.ifCond .eq 25, 3) := by decide +kernel
theorem dX9_sure_11 : decode cX9_sure 11 = .ok (.aload_n 0, 1) := by decide +kernel
theorem dX9_sure_12 : decode cX9_sure 12 = .ok (.iload_n 2, 1) := by decide +kernel
theorem dX9_sure_13 : decode cX9_sure 13 = .ok (.invokevirtual 420, 3) := by decide +kernel
theorem dX9_sure_16 : decode cX9_sure 16 = .ok (.ifCond .eq 17, 3) := by decide +kernel
theorem dX9_sure_19 : decode cX9_sure 19 = .ok (.aload_n 0, 1) := by decide +kernel
theorem dX9_sure_20 : decode cX9_sure 20 = .ok (.iload_n 3, 1) := by decide +kernel
theorem dX9_sure_21 : decode cX9_sure 21 = .ok (.invokevirtual 420, 3) := by decide +kernel
theorem dX9_sure_24 : decode cX9_sure 24 = .ok (.ifCond .eq 9, 3) := by decide +kernel
theorem dX9_sure_27 : decode cX9_sure 27 = .ok (.iload_n 2, 1) := by decide +kernel
theorem dX9_sure_28 : decode cX9_sure 28 = .ok (.iload_n 3, 1) := by decide +kernel
theorem dX9_sure_29 : decode cX9_sure 29 = .ok (.iand, 1) := by decide +kernel
theorem dX9_sure_30 : decode cX9_sure 30 = .ok (.ifCond .eq 5, 3) := by decide +kernel
theorem dX9_sure_33 : decode cX9_sure 33 = .ok (.iconst (-1), 1) := by decide +kernel
theorem dX9_sure_34 : decode cX9_sure 34 = .ok (.ireturn, 1) := by decide +kernel
theorem dX9_sure_35 : decode cX9_sure 35 = .ok (.ldc2_w 423, 3) := by decide +kernel
theorem dX9_sure_38 : decode cX9_sure 38 = .ok (.iload_n 1, 1) := by decide +kernel
theorem dX9_sure_39 : decode cX9_sure 39 = .ok (.i2l, 1) := by decide +kernel
theorem dX9_sure_40 : decode cX9_sure 40 = .ok (.lmul, 1) := by decide +kernel
theorem dX9_sure_41 : decode cX9_sure 41 = .ok (.lstore 4, 2) := by decide +kernel
theorem dX9_sure_43 : decode cX9_sure 43 = .ok (.iconst 0, 1) := by decide +kernel
theorem dX9_sure_44 : decode cX9_sure 44 = .ok (.istore 6, 2) := by decide +kernel
theorem dX9_sure_46 : decode cX9_sure 46 = .ok (.iload 6, 2) := by decide +kernel
theorem dX9_sure_48 : decode cX9_sure 48 = .ok (.aload_n 0, 1) := by decide +kernel
theorem dX9_sure_49 : decode cX9_sure 49 = .ok (.getfield 7, 3) := by decide +kernel
theorem dX9_sure_52 : decode cX9_sure 52 = .ok (.sipush 553, 3) := by decide +kernel
theorem dX9_sure_55 : decode cX9_sure 55 = .ok (.iaload, 1) := by decide +kernel
theorem dX9_sure_56 : decode cX9_sure 56 = .ok (.if_icmp .ge 46, 3) := by decide +kernel
theorem dX9_sure_59 : decode cX9_sure 59 = .ok (.iload_n 2, 1) := by decide +kernel
theorem dX9_sure_60 : decode cX9_sure 60 = .ok (.iload_n 3, 1) := by decide +kernel
theorem dX9_sure_61 : decode cX9_sure 61 = .ok (.ior, 1) := by decide +kernel
theorem dX9_sure_62 : decode cX9_sure 62 = .ok (.iload 6, 2) := by decide +kernel
theorem dX9_sure_64 : decode cX9_sure 64 = .ok (.ishr, 1) := by decide +kernel
theorem dX9_sure_65 : decode cX9_sure 65 = .ok (.iconst 1, 1) := by decide +kernel
theorem dX9_sure_66 : decode cX9_sure 66 = .ok (.iand, 1) := by decide +kernel
theorem dX9_sure_67 : decode cX9_sure 67 = .ok (.iconst 1, 1) := by decide +kernel
theorem dX9_sure_68 : decode cX9_sure 68 = .ok (.if_icmp .ne 28, 3) := by decide +kernel
theorem dX9_sure_71 : decode cX9_sure 71 = .ok (.aload_n 0, 1) := by decide +kernel
theorem dX9_sure_72 : decode cX9_sure 72 = .ok (.lload 4, 2) := by decide +kernel
theorem dX9_sure_74 : decode cX9_sure 74 = .ok (.iload 6, 2) := by decide +kernel
theorem dX9_sure_76 : decode cX9_sure 76 = .ok (.iload_n 2, 1) := by decide +kernel
theorem dX9_sure_77 : decode cX9_sure 77 = .ok (.iload 6, 2) := by decide +kernel
theorem dX9_sure_79 : decode cX9_sure 79 = .ok (.ishr, 1) := by decide +kernel
theorem dX9_sure_80 : decode cX9_sure 80 = .ok (.iconst 1, 1) := by decide +kernel
theorem dX9_sure_81 : decode cX9_sure 81 = .ok (.iand, 1) := by decide +kernel
theorem dX9_sure_82 : decode cX9_sure 82 = .ok (.iconst 1, 1) := by decide +kernel
theorem dX9_sure_83 : decode cX9_sure 83 = .ok (.if_icmp .ne 7, 3) := by decide +kernel
theorem dX9_sure_86 : decode cX9_sure 86 = .ok (.iconst 1, 1) := by decide +kernel
theorem dX9_sure_87 : decode cX9_sure 87 = .ok (.goto 4, 3) := by decide +kernel
theorem dX9_sure_90 : decode cX9_sure 90 = .ok (.iconst 0, 1) := by decide +kernel
theorem dX9_sure_91 : decode cX9_sure 91 = .ok (.invokevirtual 425, 3) := by decide +kernel
theorem dX9_sure_94 : decode cX9_sure 94 = .ok (.lstore 4, 2) := by decide +kernel
theorem dX9_sure_96 : decode cX9_sure 96 = .ok (.iinc 6 1, 3) := by decide +kernel
theorem dX9_sure_99 : decode cX9_sure 99 = .ok (.goto (-53), 3) := by decide +kernel
theorem dX9_sure_102 : decode cX9_sure 102 = .ok (.lload 4, 2) := by decide +kernel
theorem dX9_sure_104 : decode cX9_sure 104 = .ok (.l2i, 1) := by decide +kernel
theorem dX9_sure_105 : decode cX9_sure 105 = .ok (.ireturn, 1) := by decide +kernel
theorem dX9_needs_0 : decode cX9_needs 0 = .ok (.iload_n 1, 1) := by decide +kernel
theorem dX9_needs_1 : decode cX9_needs 1 = .ok (.iconst 0, 1) := by decide +kernel
theorem dX9_needs_2 : decode cX9_needs 2 = .ok (.sipush 1000, 3) := by decide +kernel
theorem dX9_needs_5 : decode cX9_needs 5 = .ok (.invokestatic 72, 3) := by decide +kernel
theorem dX9_needs_8 : decode cX9_needs 8 = .ok (.ifCond .eq 21, 3) := by decide +kernel
theorem dX9_needs_11 : decode cX9_needs 11 = .ok (.iload_n 2, 1) := by decide +kernel
theorem dX9_needs_12 : decode cX9_needs 12 = .ok (.iconst 0, 1) := by decide +kernel
theorem dX9_needs_13 : decode cX9_needs 13 = .ok (.aload_n 0, 1) := by decide +kernel
theorem dX9_needs_14 : decode cX9_needs 14 = .ok (.getfield 7, 3) := by decide +kernel
theorem dX9_needs_17 : decode cX9_needs 17 = .ok (.sipush 553, 3) := by decide +kernel
theorem dX9_needs_20 : decode cX9_needs 20 = .ok (.iaload, 1) := by decide +kernel
theorem dX9_needs_21 : decode cX9_needs 21 = .ok (.iconst 1, 1) := by decide +kernel
theorem dX9_needs_22 : decode cX9_needs 22 = .ok (.isub, 1) := by decide +kernel
theorem dX9_needs_23 : decode cX9_needs 23 = .ok (.invokestatic 72, 3) := by decide +kernel
theorem dX9_needs_26 : decode cX9_needs 26 = .ok (.ifCond .ne 5, 3) := by decide +kernel
theorem dX9_needs_29 : decode cX9_needs 29 = .ok (.iconst (-1), 1) := by decide +kernel
theorem dX9_needs_30 : decode cX9_needs 30 = .ok (.ireturn, 1) := by decide +kernel
theorem dX9_needs_31 : decode cX9_needs 31 = .ok (.ldc2_w 423, 3) := by decide +kernel
theorem dX9_needs_34 : decode cX9_needs 34 = .ok (.iload_n 1, 1) := by decide +kernel
theorem dX9_needs_35 : decode cX9_needs 35 = .ok (.i2l, 1) := by decide +kernel
theorem dX9_needs_36 : decode cX9_needs 36 = .ok (.lmul, 1) := by decide +kernel
theorem dX9_needs_37 : decode cX9_needs 37 = .ok (.lstore_n 3, 1) := by decide +kernel
theorem dX9_needs_38 : decode cX9_needs 38 = .ok (.iconst 0, 1) := by decide +kernel
theorem dX9_needs_39 : decode cX9_needs 39 = .ok (.istore 5, 2) := by decide +kernel
theorem dX9_needs_41 : decode cX9_needs 41 = .ok (.iload 5, 2) := by decide +kernel
theorem dX9_needs_43 : decode cX9_needs 43 = .ok (.bipush 60, 2) := by decide +kernel
theorem dX9_needs_45 : decode cX9_needs 45 = .ok (.if_icmp .gt 28, 3) := by decide +kernel
theorem dX9_needs_48 : decode cX9_needs 48 = .ok (.lload_n 3, 1) := by decide +kernel
theorem dX9_needs_49 : decode cX9_needs 49 = .ok (.ldc2_w 429, 3) := by decide +kernel
theorem dX9_needs_52 : decode cX9_needs 52 = .ok (.lcmp, 1) := by decide +kernel
theorem dX9_needs_53 : decode cX9_needs 53 = .ok (.ifCond .lt 6, 3) := by decide +kernel
theorem dX9_needs_56 : decode cX9_needs 56 = .ok (.iload 5, 2) := by decide +kernel
theorem dX9_needs_58 : decode cX9_needs 58 = .ok (.ireturn, 1) := by decide +kernel
theorem dX9_needs_59 : decode cX9_needs 59 = .ok (.aload_n 0, 1) := by decide +kernel
theorem dX9_needs_60 : decode cX9_needs 60 = .ok (.lload_n 3, 1) := by decide +kernel
theorem dX9_needs_61 : decode cX9_needs 61 = .ok (.iload_n 2, 1) := by decide +kernel
theorem dX9_needs_62 : decode cX9_needs 62 = .ok (.iconst 1, 1) := by decide +kernel
theorem dX9_needs_63 : decode cX9_needs 63 = .ok (.invokevirtual 425, 3) := by decide +kernel
theorem dX9_needs_66 : decode cX9_needs 66 = .ok (.lstore_n 3, 1) := by decide +kernel
theorem dX9_needs_67 : decode cX9_needs 67 = .ok (.iinc 5 1, 3) := by decide +kernel
theorem dX9_needs_70 : decode cX9_needs 70 = .ok (.goto (-29), 3) := by decide +kernel
theorem dX9_needs_73 : decode cX9_needs 73 = .ok (.iconst (-1), 1) := by decide +kernel
theorem dX9_needs_74 : decode cX9_needs 74 = .ok (.ireturn, 1) := by decide +kernel
theorem dX9_waits_0 : decode cX9_waits 0 = .ok (.iload_n 1, 1) := by decide +kernel
theorem dX9_waits_1 : decode cX9_waits 1 = .ok (.iconst 0, 1) := by decide +kernel
theorem dX9_waits_2 : decode cX9_waits 2 = .ok (.sipush 1000, 3) := by decide +kernel
theorem dX9_waits_5 : decode cX9_waits 5 = .ok (.invokestatic 72, 3) := by decide +kernel
theorem dX9_waits_8 : decode cX9_waits 8 = .ok (.ifCond .ne 5, 3) := by decide +kernel
theorem dX9_waits_11 : decode cX9_waits 11 = .ok (.iconst (-1), 1) := by decide +kernel
theorem dX9_waits_12 : decode cX9_waits 12 = .ok (.ireturn, 1) := by decide +kernel
theorem dX9_waits_13 : decode cX9_waits 13 = .ok (.iconst (-1), 1) := by decide +kernel
theorem dX9_waits_14 : decode cX9_waits 14 = .ok (.istore_n 2, 1) := by decide +kernel
theorem dX9_waits_15 : decode cX9_waits 15 = .ok (.ldc2_w 431, 3) := by decide +kernel
theorem dX9_waits_18 : decode cX9_waits 18 = .ok (.lstore_n 3, 1) := by decide +kernel
theorem dX9_waits_19 : decode cX9_waits 19 = .ok (.iconst 0, 1) := by decide +kernel
theorem dX9_waits_20 : decode cX9_waits 20 = .ok (.istore 5, 2) := by decide +kernel
theorem dX9_waits_22 : decode cX9_waits 22 = .ok (.iload 5, 2) := by decide +kernel
theorem dX9_waits_24 : decode cX9_waits 24 = .ok (.aload_n 0, 1) := by decide +kernel
theorem dX9_waits_25 : decode cX9_waits 25 = .ok (.getfield 7, 3) := by decide +kernel
theorem dX9_waits_28 : decode cX9_waits 28 = .ok (.sipush 553, 3) := by decide +kernel
theorem dX9_waits_31 : decode cX9_waits 31 = .ok (.iaload, 1) := by decide +kernel
theorem dX9_waits_32 : decode cX9_waits 32 = .ok (.if_icmp .ge 71, 3) := by decide +kernel
theorem dX9_waits_35 : decode cX9_waits 35 = .ok (.aload_n 0, 1) := by decide +kernel
theorem dX9_waits_36 : decode cX9_waits 36 = .ok (.ldc2_w 423, 3) := by decide +kernel
theorem dX9_waits_39 : decode cX9_waits 39 = .ok (.iload_n 1, 1) := by decide +kernel
theorem dX9_waits_40 : decode cX9_waits 40 = .ok (.i2l, 1) := by decide +kernel
theorem dX9_waits_41 : decode cX9_waits 41 = .ok (.lmul, 1) := by decide +kernel
theorem dX9_waits_42 : decode cX9_waits 42 = .ok (.iload 5, 2) := by decide +kernel
theorem dX9_waits_44 : decode cX9_waits 44 = .ok (.iconst 1, 1) := by decide +kernel
theorem dX9_waits_45 : decode cX9_waits 45 = .ok (.invokevirtual 425, 3) := by decide +kernel
theorem dX9_waits_48 : decode cX9_waits 48 = .ok (.aload_n 0, 1) := by decide +kernel
theorem dX9_waits_49 : decode cX9_waits 49 = .ok (.ldc2_w 423, 3) := by decide +kernel
theorem dX9_waits_52 : decode cX9_waits 52 = .ok (.iload_n 1, 1) := by decide +kernel
theorem dX9_waits_53 : decode cX9_waits 53 = .ok (.i2l, 1) := by decide +kernel
theorem dX9_waits_54 : decode cX9_waits 54 = .ok (.lmul, 1) := by decide +kernel
theorem dX9_waits_55 : decode cX9_waits 55 = .ok (.iload 5, 2) := by decide +kernel
theorem dX9_waits_57 : decode cX9_waits 57 = .ok (.iconst 0, 1) := by decide +kernel
theorem dX9_waits_58 : decode cX9_waits 58 = .ok (.invokevirtual 425, 3) := by decide +kernel
theorem dX9_waits_61 : decode cX9_waits 61 = .ok (.lsub, 1) := by decide +kernel
theorem dX9_waits_62 : decode cX9_waits 62 = .ok (.lstore 6, 2) := by decide +kernel
theorem dX9_waits_64 : decode cX9_waits 64 = .ok (.lload 6, 2) := by decide +kernel
theorem dX9_waits_66 : decode cX9_waits 66 = .ok (.lconst 0, 1) := by decide +kernel
theorem dX9_waits_67 : decode cX9_waits 67 = .ok (.lcmp, 1) := by decide +kernel
theorem dX9_waits_68 : decode cX9_waits 68 = .ok (.ifCond .ge 9, 3) := by decide +kernel
theorem dX9_waits_71 : decode cX9_waits 71 = .ok (.lload 6, 2) := by decide +kernel
theorem dX9_waits_73 : decode cX9_waits 73 = .ok (.lneg, 1) := by decide +kernel
theorem dX9_waits_74 : decode cX9_waits 74 = .ok (.goto 5, 3) := by decide +kernel
theorem dX9_waits_77 : decode cX9_waits 77 = .ok (.lload 6, 2) := by decide +kernel
theorem dX9_waits_79 : decode cX9_waits 79 = .ok (.lstore 6, 2) := by decide +kernel
theorem dX9_waits_81 : decode cX9_waits 81 = .ok (.lload 6, 2) := by decide +kernel
theorem dX9_waits_83 : decode cX9_waits 83 = .ok (.lload_n 3, 1) := by decide +kernel
theorem dX9_waits_84 : decode cX9_waits 84 = .ok (.lcmp, 1) := by decide +kernel
theorem dX9_waits_85 : decode cX9_waits 85 = .ok (.ifCond .gt 6, 3) := by decide +kernel
theorem dX9_waits_88 : decode cX9_waits 88 = .ok (.goto 9, 3) := by decide +kernel
theorem dX9_waits_91 : decode cX9_waits 91 = .ok (.lload 6, 2) := by decide +kernel
theorem dX9_waits_93 : decode cX9_waits 93 = .ok (.lstore_n 3, 1) := by decide +kernel
theorem dX9_waits_94 : decode cX9_waits 94 = .ok (.iload 5, 2) := by decide +kernel
theorem dX9_waits_96 : decode cX9_waits 96 = .ok (.istore_n 2, 1) := by decide +kernel
theorem dX9_waits_97 : decode cX9_waits 97 = .ok (.iinc 5 1, 3) := by decide +kernel
theorem dX9_waits_100 : decode cX9_waits 100 = .ok (.goto (-78), 3) := by decide +kernel
theorem dX9_waits_103 : decode cX9_waits 103 = .ok (.iload_n 2, 1) := by decide +kernel
theorem dX9_waits_104 : decode cX9_waits 104 = .ok (.ireturn, 1) := by decide +kernel
theorem dX9_isAnswered_0 : decode cX9_isAnswered 0 = .ok (.iload_n 1, 1) := by decide +kernel
theorem dX9_isAnswered_1 : decode cX9_isAnswered 1 = .ok (.iconst 1, 1) := by decide +kernel
theorem dX9_isAnswered_2 : decode cX9_isAnswered 2 = .ok (.iadd, 1) := by decide +kernel
theorem dX9_isAnswered_3 : decode cX9_isAnswered 3 = .ok (.istore_n 2, 1) := by decide +kernel
theorem dX9_isAnswered_4 : decode cX9_isAnswered 4 = .ok (.iload_n 2, 1) := by decide +kernel
theorem dX9_isAnswered_5 : decode cX9_isAnswered 5 = .ok (.aload_n 0, 1) := by decide +kernel
theorem dX9_isAnswered_6 : decode cX9_isAnswered 6 = .ok (.getfield 7, 3) := by decide +kernel
theorem dX9_isAnswered_9 : decode cX9_isAnswered 9 = .ok (.iconst 3, 1) := by decide +kernel
theorem dX9_isAnswered_10 : decode cX9_isAnswered 10 = .ok (.iaload, 1) := by decide +kernel
theorem dX9_isAnswered_11 : decode cX9_isAnswered 11 = .ok (.if_icmp .ge 30, 3) := by decide +kernel
theorem dX9_isAnswered_14 : decode cX9_isAnswered 14 = .ok (.aload_n 0, 1) := by decide +kernel
theorem dX9_isAnswered_15 : decode cX9_isAnswered 15 = .ok (.iload_n 2, 1) := by decide +kernel
theorem dX9_isAnswered_16 : decode cX9_isAnswered 16 = .ok (.bipush 6, 2) := by decide +kernel
theorem dX9_isAnswered_18 : decode cX9_isAnswered 18 = .ok (.invokevirtual 76, 3) := by decide +kernel
theorem dX9_isAnswered_21 : decode cX9_isAnswered 21 = .ok (.iload_n 1, 1) := by decide +kernel
theorem dX9_isAnswered_22 : decode cX9_isAnswered 22 = .ok (.if_icmp .ne 13, 3) := by decide +kernel
theorem dX9_isAnswered_25 : decode cX9_isAnswered 25 = .ok (.aload_n 0, 1) := by decide +kernel
theorem dX9_isAnswered_26 : decode cX9_isAnswered 26 = .ok (.iload_n 2, 1) := by decide +kernel
theorem dX9_isAnswered_27 : decode cX9_isAnswered 27 = .ok (.invokevirtual 79, 3) := by decide +kernel
theorem dX9_isAnswered_30 : decode cX9_isAnswered 30 = .ok (.ifCond .ne 5, 3) := by decide +kernel
theorem dX9_isAnswered_33 : decode cX9_isAnswered 33 = .ok (.iconst 1, 1) := by decide +kernel
theorem dX9_isAnswered_34 : decode cX9_isAnswered 34 = .ok (.ireturn, 1) := by decide +kernel
theorem dX9_isAnswered_35 : decode cX9_isAnswered 35 = .ok (.iinc 2 1, 3) := by decide +kernel
theorem dX9_isAnswered_38 : decode cX9_isAnswered 38 = .ok (.goto (-34), 3) := by decide +kernel
theorem dX9_isAnswered_41 : decode cX9_isAnswered 41 = .ok (.iconst 0, 1) := by decide +kernel
theorem dX9_isAnswered_42 : decode cX9_isAnswered 42 = .ok (.ireturn, 1) := by decide +kernel
theorem dX9_isWaiting_0 : decode cX9_isWaiting 0 = .ok (.aload_n 0, 1) := by decide +kernel
theorem dX9_isWaiting_1 : decode cX9_isWaiting 1 = .ok (.iload_n 1, 1) := by decide +kernel
theorem dX9_isWaiting_2 : decode cX9_isWaiting 2 = .ok (.invokevirtual 320, 3) := by decide +kernel
theorem dX9_isWaiting_5 : decode cX9_isWaiting 5 = .ok (.iload_n 2, 1) := by decide +kernel
theorem dX9_isWaiting_6 : decode cX9_isWaiting 6 = .ok (.if_icmp .ne 23, 3) := by decide +kernel
theorem dX9_isWaiting_9 : decode cX9_isWaiting 9 = .ok (.aload_n 0, 1) := by decide +kernel
theorem dX9_isWaiting_10 : decode cX9_isWaiting 10 = .ok (.iload_n 1, 1) := by decide +kernel
theorem dX9_isWaiting_11 : decode cX9_isWaiting 11 = .ok (.invokevirtual 79, 3) := by decide +kernel
theorem dX9_isWaiting_14 : decode cX9_isWaiting 14 = .ok (.ifCond .ne 15, 3) := by decide +kernel
theorem dX9_isWaiting_17 : decode cX9_isWaiting 17 = .ok (.aload_n 0, 1) := by decide +kernel
theorem dX9_isWaiting_18 : decode cX9_isWaiting 18 = .ok (.iload_n 1, 1) := by decide +kernel
theorem dX9_isWaiting_19 : decode cX9_isWaiting 19 = .ok (.invokevirtual 433, 3) := by decide +kernel
theorem dX9_isWaiting_22 : decode cX9_isWaiting 22 = .ok (.ifCond .ne 7, 3) := by decide +kernel
theorem dX9_isWaiting_25 : decode cX9_isWaiting 25 = .ok (.iconst 1, 1) := by decide +kernel
theorem dX9_isWaiting_26 : decode cX9_isWaiting 26 = .ok (.goto 4, 3) := by decide +kernel
theorem dX9_isWaiting_29 : decode cX9_isWaiting 29 = .ok (.iconst 0, 1) := by decide +kernel
theorem dX9_isWaiting_30 : decode cX9_isWaiting 30 = .ok (.ireturn, 1) := by decide +kernel
theorem dX9_which_0 : decode cX9_which 0 = .ok (.iconst (-1), 1) := by decide +kernel
theorem dX9_which_1 : decode cX9_which 1 = .ok (.istore_n 2, 1) := by decide +kernel
theorem dX9_which_2 : decode cX9_which 2 = .ok (.iconst (-1), 1) := by decide +kernel
theorem dX9_which_3 : decode cX9_which 3 = .ok (.istore_n 3, 1) := by decide +kernel
theorem dX9_which_4 : decode cX9_which 4 = .ok (.iconst 0, 1) := by decide +kernel
theorem dX9_which_5 : decode cX9_which 5 = .ok (.istore 4, 2) := by decide +kernel
theorem dX9_which_7 : decode cX9_which 7 = .ok (.iload 4, 2) := by decide +kernel
theorem dX9_which_9 : decode cX9_which 9 = .ok (.aload_n 0, 1) := by decide +kernel
theorem dX9_which_10 : decode cX9_which 10 = .ok (.getfield 7, 3) := by decide +kernel
theorem dX9_which_13 : decode cX9_which 13 = .ok (.iconst 3, 1) := by decide +kernel
theorem dX9_which_14 : decode cX9_which 14 = .ok (.iaload, 1) := by decide +kernel
theorem dX9_which_15 : decode cX9_which 15 = .ok (.if_icmp .ge 71, 3) := by decide +kernel
theorem dX9_which_18 : decode cX9_which 18 = .ok (.iload_n 1, 1) := by decide +kernel
theorem dX9_which_19 : decode cX9_which 19 = .ok (.invokestatic 91, 3) := by decide +kernel
theorem dX9_which_22 : decode cX9_which 22 = .ok (.ifCond .eq 64, 3) := by decide +kernel
theorem dX9_which_25 : decode cX9_which 25 = .ok (.aload_n 0, 1) := by decide +kernel
theorem dX9_which_26 : decode cX9_which 26 = .ok (.iload 4, 2) := by decide +kernel
theorem dX9_which_28 : decode cX9_which 28 = .ok (.iload_n 1, 1) := by decide +kernel
theorem dX9_which_29 : decode cX9_which 29 = .ok (.invokevirtual 436, 3) := by decide +kernel
theorem dX9_which_32 : decode cX9_which 32 = .ok (.ifCond .eq 24, 3) := by decide +kernel
theorem dX9_which_35 : decode cX9_which 35 = .ok (.aload_n 0, 1) := by decide +kernel
theorem dX9_which_36 : decode cX9_which 36 = .ok (.iload 4, 2) := by decide +kernel
theorem dX9_which_38 : decode cX9_which 38 = .ok (.iconst 3, 1) := by decide +kernel
theorem dX9_which_39 : decode cX9_which 39 = .ok (.invokevirtual 76, 3) := by decide +kernel
theorem dX9_which_42 : decode cX9_which 42 = .ok (.bipush 10, 2) := by decide +kernel
theorem dX9_which_44 : decode cX9_which 44 = .ok (.aload_n 0, 1) := by decide +kernel
theorem dX9_which_45 : decode cX9_which 45 = .ok (.iload 4, 2) := by decide +kernel
theorem dX9_which_47 : decode cX9_which 47 = .ok (.iconst 4, 1) := by decide +kernel
theorem dX9_which_48 : decode cX9_which 48 = .ok (.invokevirtual 76, 3) := by decide +kernel
theorem dX9_which_51 : decode cX9_which 51 = .ok (.imul, 1) := by decide +kernel
theorem dX9_which_52 : decode cX9_which 52 = .ok (.iadd, 1) := by decide +kernel
theorem dX9_which_53 : decode cX9_which 53 = .ok (.goto 4, 3) := by decide +kernel
theorem dX9_which_56 : decode cX9_which 56 = .ok (.iconst (-1), 1) := by decide +kernel
theorem dX9_which_57 : decode cX9_which 57 = .ok (.istore 5, 2) := by decide +kernel
theorem dX9_which_59 : decode cX9_which 59 = .ok (.iload 5, 2) := by decide +kernel
theorem dX9_which_61 : decode cX9_which 61 = .ok (.iload_n 3, 1) := by decide +kernel
theorem dX9_which_62 : decode cX9_which 62 = .ok (.if_icmp .lt 18, 3) := by decide +kernel
theorem dX9_which_65 : decode cX9_which 65 = .ok (.iload 5, 2) := by decide +kernel
theorem dX9_which_67 : decode cX9_which 67 = .ok (.iconst (-1), 1) := by decide +kernel
theorem dX9_which_68 : decode cX9_which 68 = .ok (.if_icmp .ne 6, 3) := by decide +kernel
theorem dX9_which_71 : decode cX9_which 71 = .ok (.goto 9, 3) := by decide +kernel
theorem dX9_which_74 : decode cX9_which 74 = .ok (.iload 5, 2) := by decide +kernel
theorem dX9_which_76 : decode cX9_which 76 = .ok (.istore_n 3, 1) := by decide +kernel
theorem dX9_which_77 : decode cX9_which 77 = .ok (.iload 4, 2) := by decide +kernel
theorem dX9_which_79 : decode cX9_which 79 = .ok (.istore_n 2, 1) := by decide +kernel
theorem dX9_which_80 : decode cX9_which 80 = .ok (.iinc 4 1, 3) := by decide +kernel
theorem dX9_which_83 : decode cX9_which 83 = .ok (.goto (-76), 3) := by decide +kernel
theorem dX9_which_86 : decode cX9_which 86 = .ok (.iload_n 2, 1) := by decide +kernel
theorem dX9_which_87 : decode cX9_which 87 = .ok (.ireturn, 1) := by decide +kernel
theorem dX9_drift_0 : decode cX9_drift 0 = .ok (.iload_n 1, 1) := by decide +kernel
theorem dX9_drift_1 : decode cX9_drift 1 = .ok (.invokestatic 91, 3) := by decide +kernel
theorem dX9_drift_4 : decode cX9_drift 4 = .ok (.ifCond .eq 12, 3) := by decide +kernel
theorem dX9_drift_7 : decode cX9_drift 7 = .ok (.iload_n 2, 1) := by decide +kernel
theorem dX9_drift_8 : decode cX9_drift 8 = .ok (.iconst 0, 1) := by decide +kernel
theorem dX9_drift_9 : decode cX9_drift 9 = .ok (.iconst 1, 1) := by decide +kernel
theorem dX9_drift_10 : decode cX9_drift 10 = .ok (.invokestatic 72, 3) := by decide +kernel
theorem dX9_drift_13 : decode cX9_drift 13 = .ok (.ifCond .ne 6, 3) := by decide +kernel
theorem dX9_drift_16 : decode cX9_drift 16 = .ok (.bipush (-100), 2) := by decide +kernel
theorem dX9_drift_18 : decode cX9_drift 18 = .ok (.ireturn, 1) := by decide +kernel
theorem dX9_drift_19 : decode cX9_drift 19 = .ok (.iconst 0, 1) := by decide +kernel
theorem dX9_drift_20 : decode cX9_drift 20 = .ok (.istore_n 3, 1) := by decide +kernel
theorem dX9_drift_21 : decode cX9_drift 21 = .ok (.iconst 0, 1) := by decide +kernel
theorem dX9_drift_22 : decode cX9_drift 22 = .ok (.istore 4, 2) := by decide +kernel
theorem dX9_drift_24 : decode cX9_drift 24 = .ok (.iconst (-1), 1) := by decide +kernel
theorem dX9_drift_25 : decode cX9_drift 25 = .ok (.istore 5, 2) := by decide +kernel
theorem dX9_drift_27 : decode cX9_drift 27 = .ok (.iconst 0, 1) := by decide +kernel
theorem dX9_drift_28 : decode cX9_drift 28 = .ok (.istore 6, 2) := by decide +kernel
theorem dX9_drift_30 : decode cX9_drift 30 = .ok (.iload 6, 2) := by decide +kernel
theorem dX9_drift_32 : decode cX9_drift 32 = .ok (.aload_n 0, 1) := by decide +kernel
theorem dX9_drift_33 : decode cX9_drift 33 = .ok (.getfield 7, 3) := by decide +kernel
theorem dX9_drift_36 : decode cX9_drift 36 = .ok (.iconst 3, 1) := by decide +kernel
theorem dX9_drift_37 : decode cX9_drift 37 = .ok (.iaload, 1) := by decide +kernel
theorem dX9_drift_38 : decode cX9_drift 38 = .ok (.if_icmp .ge 184, 3) := by decide +kernel
theorem dX9_drift_41 : decode cX9_drift 41 = .ok (.aload_n 0, 1) := by decide +kernel
theorem dX9_drift_42 : decode cX9_drift 42 = .ok (.getfield 53, 3) := by decide +kernel
theorem dX9_drift_45 : decode cX9_drift 45 = .ok (.iload 6, 2) := by decide +kernel
theorem dX9_drift_47 : decode cX9_drift 47 = .ok (.iconst 0, 1) := by decide +kernel
theorem dX9_drift_48 : decode cX9_drift 48 = .ok (.iastore, 1) := by decide +kernel
theorem dX9_drift_49 : decode cX9_drift 49 = .ok (.aload_n 0, 1) := by decide +kernel
theorem dX9_drift_50 : decode cX9_drift 50 = .ok (.iload 6, 2) := by decide +kernel
theorem dX9_drift_52 : decode cX9_drift 52 = .ok (.iconst 0, 1) := by decide +kernel
theorem dX9_drift_53 : decode cX9_drift 53 = .ok (.invokevirtual 76, 3) := by decide +kernel
theorem dX9_drift_56 : decode cX9_drift 56 = .ok (.iload_n 1, 1) := by decide +kernel
theorem dX9_drift_57 : decode cX9_drift 57 = .ok (.if_icmp .ne 159, 3) := by decide +kernel
theorem dX9_drift_60 : decode cX9_drift 60 = .ok (.aload_n 0, 1) := by decide +kernel
theorem dX9_drift_61 : decode cX9_drift 61 = .ok (.iload 6, 2) := by decide +kernel
theorem dX9_drift_63 : decode cX9_drift 63 = .ok (.invokevirtual 79, 3) := by decide +kernel
theorem dX9_drift_66 : decode cX9_drift 66 = .ok (.ifCond .eq 6, 3) := by decide +kernel
theorem dX9_drift_69 : decode cX9_drift 69 = .ok (.goto 147, 3) := by decide +kernel
theorem dX9_drift_72 : decode cX9_drift 72 = .ok (.aload_n 0, 1) := by decide +kernel
theorem dX9_drift_73 : decode cX9_drift 73 = .ok (.getfield 53, 3) := by decide +kernel
theorem dX9_drift_76 : decode cX9_drift 76 = .ok (.iload 6, 2) := by decide +kernel
theorem dX9_drift_78 : decode cX9_drift 78 = .ok (.iconst 1, 1) := by decide +kernel
theorem dX9_drift_79 : decode cX9_drift 79 = .ok (.iastore, 1) := by decide +kernel
theorem dX9_drift_80 : decode cX9_drift 80 = .ok (.iconst 0, 1) := by decide +kernel
theorem dX9_drift_81 : decode cX9_drift 81 = .ok (.istore 7, 2) := by decide +kernel
theorem dX9_drift_83 : decode cX9_drift 83 = .ok (.iload 7, 2) := by decide +kernel
theorem dX9_drift_85 : decode cX9_drift 85 = .ok (.iload 6, 2) := by decide +kernel
theorem dX9_drift_87 : decode cX9_drift 87 = .ok (.if_icmp .ge 62, 3) := by decide +kernel
theorem dX9_drift_90 : decode cX9_drift 90 = .ok (.aload_n 0, 1) := by decide +kernel
theorem dX9_drift_91 : decode cX9_drift 91 = .ok (.getfield 53, 3) := by decide +kernel
theorem dX9_drift_94 : decode cX9_drift 94 = .ok (.iload 7, 2) := by decide +kernel
theorem dX9_drift_96 : decode cX9_drift 96 = .ok (.iaload, 1) := by decide +kernel
theorem dX9_drift_97 : decode cX9_drift 97 = .ok (.ifCond .le 46, 3) := by decide +kernel
theorem dX9_drift_100 : decode cX9_drift 100 = .ok (.aload_n 0, 1) := by decide +kernel
theorem dX9_drift_101 : decode cX9_drift 101 = .ok (.iload 7, 2) := by decide +kernel
theorem dX9_drift_103 : decode cX9_drift 103 = .ok (.iconst 4, 1) := by decide +kernel
theorem dX9_drift_104 : decode cX9_drift 104 = .ok (.invokevirtual 76, 3) := by decide +kernel
theorem dX9_drift_107 : decode cX9_drift 107 = .ok (.aload_n 0, 1) := by decide +kernel
theorem dX9_drift_108 : decode cX9_drift 108 = .ok (.iload 6, 2) := by decide +kernel
theorem dX9_drift_110 : decode cX9_drift 110 = .ok (.iconst 4, 1) := by decide +kernel
theorem dX9_drift_111 : decode cX9_drift 111 = .ok (.invokevirtual 76, 3) := by decide +kernel
theorem dX9_drift_114 : decode cX9_drift 114 = .ok (.if_icmp .le 29, 3) := by decide +kernel
theorem dX9_drift_117 : decode cX9_drift 117 = .ok (.aload_n 0, 1) := by decide +kernel
theorem dX9_drift_118 : decode cX9_drift 118 = .ok (.getfield 53, 3) := by decide +kernel
theorem dX9_drift_121 : decode cX9_drift 121 = .ok (.iload 6, 2) := by decide +kernel
theorem dX9_drift_123 : decode cX9_drift 123 = .ok (.aload_n 0, 1) := by decide +kernel
theorem dX9_drift_124 : decode cX9_drift 124 = .ok (.getfield 53, 3) := by decide +kernel
theorem dX9_drift_127 : decode cX9_drift 127 = .ok (.iload 6, 2) := by decide +kernel
theorem dX9_drift_129 : decode cX9_drift 129 = .ok (.iaload, 1) := by decide +kernel
theorem dX9_drift_130 : decode cX9_drift 130 = .ok (.aload_n 0, 1) := by decide +kernel
theorem dX9_drift_131 : decode cX9_drift 131 = .ok (.getfield 53, 3) := by decide +kernel
theorem dX9_drift_134 : decode cX9_drift 134 = .ok (.iload 7, 2) := by decide +kernel
theorem dX9_drift_136 : decode cX9_drift 136 = .ok (.iaload, 1) := by decide +kernel
theorem dX9_drift_137 : decode cX9_drift 137 = .ok (.iconst 1, 1) := by decide +kernel
theorem dX9_drift_138 : decode cX9_drift 138 = .ok (.iadd, 1) := by decide +kernel
theorem dX9_drift_139 : decode cX9_drift 139 = .ok (.invokestatic 69, 3) := by decide +kernel
theorem dX9_drift_142 : decode cX9_drift 142 = .ok (.iastore, 1) := by decide +kernel
theorem dX9_drift_143 : decode cX9_drift 143 = .ok (.iinc 7 1, 3) := by decide +kernel
theorem dX9_drift_146 : decode cX9_drift 146 = .ok (.goto (-63), 3) := by decide +kernel
theorem dX9_drift_149 : decode cX9_drift 149 = .ok (.iload_n 3, 1) := by decide +kernel
theorem dX9_drift_150 : decode cX9_drift 150 = .ok (.aload_n 0, 1) := by decide +kernel
theorem dX9_drift_151 : decode cX9_drift 151 = .ok (.getfield 53, 3) := by decide +kernel
theorem dX9_drift_154 : decode cX9_drift 154 = .ok (.iload 6, 2) := by decide +kernel
theorem dX9_drift_156 : decode cX9_drift 156 = .ok (.iaload, 1) := by decide +kernel
theorem dX9_drift_157 : decode cX9_drift 157 = .ok (.invokestatic 69, 3) := by decide +kernel
theorem dX9_drift_160 : decode cX9_drift 160 = .ok (.istore_n 3, 1) := by decide +kernel
theorem dX9_drift_161 : decode cX9_drift 161 = .ok (.iload 5, 2) := by decide +kernel
theorem dX9_drift_163 : decode cX9_drift 163 = .ok (.iconst (-1), 1) := by decide +kernel
theorem dX9_drift_164 : decode cX9_drift 164 = .ok (.if_icmp .ne 7, 3) := by decide +kernel
theorem dX9_drift_167 : decode cX9_drift 167 = .ok (.iconst 0, 1) := by decide +kernel
theorem dX9_drift_168 : decode cX9_drift 168 = .ok (.goto 18, 3) := by decide +kernel
theorem dX9_drift_171 : decode cX9_drift 171 = .ok (.aload_n 0, 1) := by decide +kernel
theorem dX9_drift_172 : decode cX9_drift 172 = .ok (.iload 6, 2) := by decide +kernel
theorem dX9_drift_174 : decode cX9_drift 174 = .ok (.iconst 4, 1) := by decide +kernel
theorem dX9_drift_175 : decode cX9_drift 175 = .ok (.invokevirtual 76, 3) := by decide +kernel
theorem dX9_drift_178 : decode cX9_drift 178 = .ok (.aload_n 0, 1) := by decide +kernel
theorem dX9_drift_179 : decode cX9_drift 179 = .ok (.iload 5, 2) := by decide +kernel
theorem dX9_drift_181 : decode cX9_drift 181 = .ok (.iconst 4, 1) := by decide +kernel
theorem dX9_drift_182 : decode cX9_drift 182 = .ok (.invokevirtual 76, 3) := by decide +kernel
theorem dX9_drift_185 : decode cX9_drift 185 = .ok (.isub, 1) := by decide +kernel
theorem dX9_drift_186 : decode cX9_drift 186 = .ok (.istore 7, 2) := by decide +kernel
theorem dX9_drift_188 : decode cX9_drift 188 = .ok (.iload 4, 2) := by decide +kernel
theorem dX9_drift_190 : decode cX9_drift 190 = .ok (.iload 7, 2) := by decide +kernel
theorem dX9_drift_192 : decode cX9_drift 192 = .ok (.ifCond .le 7, 3) := by decide +kernel
theorem dX9_drift_195 : decode cX9_drift 195 = .ok (.iconst 1, 1) := by decide +kernel
theorem dX9_drift_196 : decode cX9_drift 196 = .ok (.goto 13, 3) := by decide +kernel
theorem dX9_drift_199 : decode cX9_drift 199 = .ok (.iload 7, 2) := by decide +kernel
theorem dX9_drift_201 : decode cX9_drift 201 = .ok (.ifCond .ge 7, 3) := by decide +kernel
theorem dX9_drift_204 : decode cX9_drift 204 = .ok (.iconst (-1), 1) := by decide +kernel
theorem dX9_drift_205 : decode cX9_drift 205 = .ok (.goto 4, 3) := by decide +kernel
theorem dX9_drift_208 : decode cX9_drift 208 = .ok (.iconst 0, 1) := by decide +kernel
theorem dX9_drift_209 : decode cX9_drift 209 = .ok (.iadd, 1) := by decide +kernel
theorem dX9_drift_210 : decode cX9_drift 210 = .ok (.istore 4, 2) := by decide +kernel
theorem dX9_drift_212 : decode cX9_drift 212 = .ok (.iload 6, 2) := by decide +kernel
theorem dX9_drift_214 : decode cX9_drift 214 = .ok (.istore 5, 2) := by decide +kernel
theorem dX9_drift_216 : decode cX9_drift 216 = .ok (.iinc 6 1, 3) := by decide +kernel
theorem dX9_drift_219 : decode cX9_drift 219 = .ok (.goto (-189), 3) := by decide +kernel
theorem dX9_drift_222 : decode cX9_drift 222 = .ok (.iload_n 2, 1) := by decide +kernel
theorem dX9_drift_223 : decode cX9_drift 223 = .ok (.ifCond .ne 7, 3) := by decide +kernel
theorem dX9_drift_226 : decode cX9_drift 226 = .ok (.iload_n 3, 1) := by decide +kernel
theorem dX9_drift_227 : decode cX9_drift 227 = .ok (.goto 5, 3) := by decide +kernel
theorem dX9_drift_230 : decode cX9_drift 230 = .ok (.iload 4, 2) := by decide +kernel
theorem dX9_drift_232 : decode cX9_drift 232 = .ok (.ireturn, 1) := by decide +kernel
theorem dX9_isAnswer_0 : decode cX9_isAnswer 0 = .ok (.aload_n 0, 1) := by decide +kernel
theorem dX9_isAnswer_1 : decode cX9_isAnswer 1 = .ok (.iload_n 1, 1) := by decide +kernel
theorem dX9_isAnswer_2 : decode cX9_isAnswer 2 = .ok (.bipush 6, 2) := by decide +kernel
theorem dX9_isAnswer_4 : decode cX9_isAnswer 4 = .ok (.invokevirtual 76, 3) := by decide +kernel
theorem dX9_isAnswer_7 : decode cX9_isAnswer 7 = .ok (.iconst (-1), 1) := by decide +kernel
theorem dX9_isAnswer_8 : decode cX9_isAnswer 8 = .ok (.if_icmp .eq 15, 3) := by decide +kernel
theorem dX9_isAnswer_11 : decode cX9_isAnswer 11 = .ok (.aload_n 0, 1) := by decide +kernel
theorem dX9_isAnswer_12 : decode cX9_isAnswer 12 = .ok (.iload_n 1, 1) := by decide +kernel
theorem dX9_isAnswer_13 : decode cX9_isAnswer 13 = .ok (.invokevirtual 79, 3) := by decide +kernel
theorem dX9_isAnswer_16 : decode cX9_isAnswer 16 = .ok (.ifCond .ne 7, 3) := by decide +kernel
theorem dX9_isAnswer_19 : decode cX9_isAnswer 19 = .ok (.iconst 1, 1) := by decide +kernel
theorem dX9_isAnswer_20 : decode cX9_isAnswer 20 = .ok (.goto 4, 3) := by decide +kernel
theorem dX9_isAnswer_23 : decode cX9_isAnswer 23 = .ok (.iconst 0, 1) := by decide +kernel
theorem dX9_isAnswer_24 : decode cX9_isAnswer 24 = .ok (.ireturn, 1) := by decide +kernel
theorem dX9_pauseOf_0 : decode cX9_pauseOf 0 = .ok (.aload_n 0, 1) := by decide +kernel
theorem dX9_pauseOf_1 : decode cX9_pauseOf 1 = .ok (.iload_n 1, 1) := by decide +kernel
theorem dX9_pauseOf_2 : decode cX9_pauseOf 2 = .ok (.iconst 1, 1) := by decide +kernel
theorem dX9_pauseOf_3 : decode cX9_pauseOf 3 = .ok (.invokevirtual 76, 3) := by decide +kernel
theorem dX9_pauseOf_6 : decode cX9_pauseOf 6 = .ok (.aload_n 0, 1) := by decide +kernel
theorem dX9_pauseOf_7 : decode cX9_pauseOf 7 = .ok (.aload_n 0, 1) := by decide +kernel
theorem dX9_pauseOf_8 : decode cX9_pauseOf 8 = .ok (.iload_n 1, 1) := by decide +kernel
theorem dX9_pauseOf_9 : decode cX9_pauseOf 9 = .ok (.bipush 6, 2) := by decide +kernel
theorem dX9_pauseOf_11 : decode cX9_pauseOf 11 = .ok (.invokevirtual 76, 3) := by decide +kernel
theorem dX9_pauseOf_14 : decode cX9_pauseOf 14 = .ok (.iconst 1, 1) := by decide +kernel
theorem dX9_pauseOf_15 : decode cX9_pauseOf 15 = .ok (.invokevirtual 76, 3) := by decide +kernel
theorem dX9_pauseOf_18 : decode cX9_pauseOf 18 = .ok (.isub, 1) := by decide +kernel
theorem dX9_pauseOf_19 : decode cX9_pauseOf 19 = .ok (.ireturn, 1) := by decide +kernel
theorem dX9_pauses_0 : decode cX9_pauses 0 = .ok (.iload_n 1, 1) := by decide +kernel
theorem dX9_pauses_1 : decode cX9_pauses 1 = .ok (.invokestatic 91, 3) := by decide +kernel
theorem dX9_pauses_4 : decode cX9_pauses 4 = .ok (.ifCond .eq 12, 3) := by decide +kernel
theorem dX9_pauses_7 : decode cX9_pauses 7 = .ok (.iload_n 2, 1) := by decide +kernel
theorem dX9_pauses_8 : decode cX9_pauses 8 = .ok (.iconst 0, 1) := by decide +kernel
theorem dX9_pauses_9 : decode cX9_pauses 9 = .ok (.iconst 2, 1) := by decide +kernel
theorem dX9_pauses_10 : decode cX9_pauses 10 = .ok (.invokestatic 72, 3) := by decide +kernel
theorem dX9_pauses_13 : decode cX9_pauses 13 = .ok (.ifCond .ne 5, 3) := by decide +kernel
theorem dX9_pauses_16 : decode cX9_pauses 16 = .ok (.iconst (-1), 1) := by decide +kernel
theorem dX9_pauses_17 : decode cX9_pauses 17 = .ok (.ireturn, 1) := by decide +kernel
theorem dX9_pauses_18 : decode cX9_pauses 18 = .ok (.iconst 0, 1) := by decide +kernel
theorem dX9_pauses_19 : decode cX9_pauses 19 = .ok (.istore_n 3, 1) := by decide +kernel
theorem dX9_pauses_20 : decode cX9_pauses 20 = .ok (.iconst 0, 1) := by decide +kernel
theorem dX9_pauses_21 : decode cX9_pauses 21 = .ok (.istore 4, 2) := by decide +kernel
theorem dX9_pauses_23 : decode cX9_pauses 23 = .ok (.iconst 0, 1) := by decide +kernel
theorem dX9_pauses_24 : decode cX9_pauses 24 = .ok (.istore 5, 2) := by decide +kernel
theorem dX9_pauses_26 : decode cX9_pauses 26 = .ok (.iconst 0, 1) := by decide +kernel
theorem dX9_pauses_27 : decode cX9_pauses 27 = .ok (.istore 6, 2) := by decide +kernel
theorem dX9_pauses_29 : decode cX9_pauses 29 = .ok (.iload 6, 2) := by decide +kernel
theorem dX9_pauses_31 : decode cX9_pauses 31 = .ok (.aload_n 0, 1) := by decide +kernel
theorem dX9_pauses_32 : decode cX9_pauses 32 = .ok (.getfield 7, 3) := by decide +kernel
theorem dX9_pauses_35 : decode cX9_pauses 35 = .ok (.iconst 3, 1) := by decide +kernel
theorem dX9_pauses_36 : decode cX9_pauses 36 = .ok (.iaload, 1) := by decide +kernel
theorem dX9_pauses_37 : decode cX9_pauses 37 = .ok (.if_icmp .ge 74, 3) := by decide +kernel
theorem dX9_pauses_40 : decode cX9_pauses 40 = .ok (.iload 5, 2) := by decide +kernel
theorem dX9_pauses_42 : decode cX9_pauses 42 = .ok (.aload_n 0, 1) := by decide +kernel
theorem dX9_pauses_43 : decode cX9_pauses 43 = .ok (.iload 6, 2) := by decide +kernel
theorem dX9_pauses_45 : decode cX9_pauses 45 = .ok (.iload_n 1, 1) := by decide +kernel
theorem dX9_pauses_46 : decode cX9_pauses 46 = .ok (.invokevirtual 436, 3) := by decide +kernel
theorem dX9_pauses_49 : decode cX9_pauses 49 = .ok (.ifCond .eq 7, 3) := by decide +kernel
theorem dX9_pauses_52 : decode cX9_pauses 52 = .ok (.iconst 1, 1) := by decide +kernel
theorem dX9_pauses_53 : decode cX9_pauses 53 = .ok (.goto 4, 3) := by decide +kernel
theorem dX9_pauses_56 : decode cX9_pauses 56 = .ok (.iconst 0, 1) := by decide +kernel
theorem dX9_pauses_57 : decode cX9_pauses 57 = .ok (.iadd, 1) := by decide +kernel
theorem dX9_pauses_58 : decode cX9_pauses 58 = .ok (.istore 5, 2) := by decide +kernel
theorem dX9_pauses_60 : decode cX9_pauses 60 = .ok (.aload_n 0, 1) := by decide +kernel
theorem dX9_pauses_61 : decode cX9_pauses 61 = .ok (.iload 6, 2) := by decide +kernel
theorem dX9_pauses_63 : decode cX9_pauses 63 = .ok (.invokevirtual 439, 3) := by decide +kernel
theorem dX9_pauses_66 : decode cX9_pauses 66 = .ok (.ifCond .eq 39, 3) := by decide +kernel
theorem dX9_pauses_69 : decode cX9_pauses 69 = .ok (.aload_n 0, 1) := by decide +kernel
theorem dX9_pauses_70 : decode cX9_pauses 70 = .ok (.iload 6, 2) := by decide +kernel
theorem dX9_pauses_72 : decode cX9_pauses 72 = .ok (.iconst 0, 1) := by decide +kernel
theorem dX9_pauses_73 : decode cX9_pauses 73 = .ok (.invokevirtual 76, 3) := by decide +kernel
theorem dX9_pauses_76 : decode cX9_pauses 76 = .ok (.iload_n 1, 1) := by decide +kernel
theorem dX9_pauses_77 : decode cX9_pauses 77 = .ok (.if_icmp .eq 6, 3) := by decide +kernel
theorem dX9_pauses_80 : decode cX9_pauses 80 = .ok (.goto 25, 3) := by decide +kernel
theorem dX9_pauses_83 : decode cX9_pauses 83 = .ok (.iload_n 3, 1) := by decide +kernel
theorem dX9_pauses_84 : decode cX9_pauses 84 = .ok (.aload_n 0, 1) := by decide +kernel
theorem dX9_pauses_85 : decode cX9_pauses 85 = .ok (.iload 6, 2) := by decide +kernel
theorem dX9_pauses_87 : decode cX9_pauses 87 = .ok (.invokevirtual 442, 3) := by decide +kernel
theorem dX9_pauses_90 : decode cX9_pauses 90 = .ok (.iadd, 1) := by decide +kernel
theorem dX9_pauses_91 : decode cX9_pauses 91 = .ok (.istore_n 3, 1) := by decide +kernel
theorem dX9_pauses_92 : decode cX9_pauses 92 = .ok (.iload 4, 2) := by decide +kernel
theorem dX9_pauses_94 : decode cX9_pauses 94 = .ok (.aload_n 0, 1) := by decide +kernel
theorem dX9_pauses_95 : decode cX9_pauses 95 = .ok (.iload 6, 2) := by decide +kernel
theorem dX9_pauses_97 : decode cX9_pauses 97 = .ok (.invokevirtual 442, 3) := by decide +kernel
theorem dX9_pauses_100 : decode cX9_pauses 100 = .ok (.invokestatic 69, 3) := by decide +kernel
theorem dX9_pauses_103 : decode cX9_pauses 103 = .ok (.istore 4, 2) := by decide +kernel
theorem dX9_pauses_105 : decode cX9_pauses 105 = .ok (.iinc 6 1, 3) := by decide +kernel
theorem dX9_pauses_108 : decode cX9_pauses 108 = .ok (.goto (-79), 3) := by decide +kernel
theorem dX9_pauses_111 : decode cX9_pauses 111 = .ok (.iload_n 2, 1) := by decide +kernel
theorem dX9_pauses_112 : decode cX9_pauses 112 = .ok (.ifCond .ne 7, 3) := by decide +kernel
theorem dX9_pauses_115 : decode cX9_pauses 115 = .ok (.iload_n 3, 1) := by decide +kernel
theorem dX9_pauses_116 : decode cX9_pauses 116 = .ok (.goto 15, 3) := by decide +kernel
theorem dX9_pauses_119 : decode cX9_pauses 119 = .ok (.iload_n 2, 1) := by decide +kernel
theorem dX9_pauses_120 : decode cX9_pauses 120 = .ok (.iconst 1, 1) := by decide +kernel
theorem dX9_pauses_121 : decode cX9_pauses 121 = .ok (.if_icmp .ne 8, 3) := by decide +kernel
theorem dX9_pauses_124 : decode cX9_pauses 124 = .ok (.iload 4, 2) := by decide +kernel
theorem dX9_pauses_126 : decode cX9_pauses 126 = .ok (.goto 5, 3) := by decide +kernel
theorem dX9_pauses_129 : decode cX9_pauses 129 = .ok (.iload 5, 2) := by decide +kernel
theorem dX9_pauses_131 : decode cX9_pauses 131 = .ok (.ireturn, 1) := by decide +kernel
theorem dX9_laysPauses_0 : decode cX9_laysPauses 0 = .ok (.iconst 0, 1) := by decide +kernel
theorem dX9_laysPauses_1 : decode cX9_laysPauses 1 = .ok (.istore_n 1, 1) := by decide +kernel
theorem dX9_laysPauses_2 : decode cX9_laysPauses 2 = .ok (.iconst 0, 1) := by decide +kernel
theorem dX9_laysPauses_3 : decode cX9_laysPauses 3 = .ok (.istore_n 2, 1) := by decide +kernel
theorem dX9_laysPauses_4 : decode cX9_laysPauses 4 = .ok (.iload_n 2, 1) := by decide +kernel
theorem dX9_laysPauses_5 : decode cX9_laysPauses 5 = .ok (.aload_n 0, 1) := by decide +kernel
theorem dX9_laysPauses_6 : decode cX9_laysPauses 6 = .ok (.getfield 7, 3) := by decide +kernel
theorem dX9_laysPauses_9 : decode cX9_laysPauses 9 = .ok (.iconst 3, 1) := by decide +kernel
theorem dX9_laysPauses_10 : decode cX9_laysPauses 10 = .ok (.iaload, 1) := by decide +kernel
theorem dX9_laysPauses_11 : decode cX9_laysPauses 11 = .ok (.if_icmp .ge 102, 3) := by decide +kernel
theorem dX9_laysPauses_14 : decode cX9_laysPauses 14 = .ok (.aload_n 0, 1) := by decide +kernel
theorem dX9_laysPauses_15 : decode cX9_laysPauses 15 = .ok (.iload_n 2, 1) := by decide +kernel
theorem dX9_laysPauses_16 : decode cX9_laysPauses 16 = .ok (.invokevirtual 439, 3) := by decide +kernel
theorem dX9_laysPauses_19 : decode cX9_laysPauses 19 = .ok (.ifCond .ne 6, 3) := by decide +kernel
theorem dX9_laysPauses_22 : decode cX9_laysPauses 22 = .ok (.goto 85, 3) := by decide +kernel
theorem dX9_laysPauses_25 : decode cX9_laysPauses 25 = .ok (.iload_n 1, 1) := by decide +kernel
theorem dX9_laysPauses_26 : decode cX9_laysPauses 26 = .ok (.istore_n 3, 1) := by decide +kernel
theorem dX9_laysPauses_27 : decode cX9_laysPauses 27 = .ok (.iload_n 3, 1) := by decide +kernel
theorem dX9_laysPauses_28 : decode cX9_laysPauses 28 = .ok (.ifCond .le 53, 3) := by decide +kernel
theorem dX9_laysPauses_31 : decode cX9_laysPauses 31 = .ok (.aload_n 0, 1) := by decide +kernel
theorem dX9_laysPauses_32 : decode cX9_laysPauses 32 = .ok (.getfield 56, 3) := by decide +kernel
theorem dX9_laysPauses_35 : decode cX9_laysPauses 35 = .ok (.iload_n 3, 1) := by decide +kernel
theorem dX9_laysPauses_36 : decode cX9_laysPauses 36 = .ok (.iconst 1, 1) := by decide +kernel
theorem dX9_laysPauses_37 : decode cX9_laysPauses 37 = .ok (.isub, 1) := by decide +kernel
theorem dX9_laysPauses_38 : decode cX9_laysPauses 38 = .ok (.iaload, 1) := by decide +kernel
theorem dX9_laysPauses_39 : decode cX9_laysPauses 39 = .ok (.aload_n 0, 1) := by decide +kernel
theorem dX9_laysPauses_40 : decode cX9_laysPauses 40 = .ok (.iload_n 2, 1) := by decide +kernel
theorem dX9_laysPauses_41 : decode cX9_laysPauses 41 = .ok (.invokevirtual 442, 3) := by decide +kernel
theorem dX9_laysPauses_44 : decode cX9_laysPauses 44 = .ok (.if_icmp .le 37, 3) := by decide +kernel
theorem dX9_laysPauses_47 : decode cX9_laysPauses 47 = .ok (.aload_n 0, 1) := by decide +kernel
theorem dX9_laysPauses_48 : decode cX9_laysPauses 48 = .ok (.getfield 56, 3) := by decide +kernel
theorem dX9_laysPauses_51 : decode cX9_laysPauses 51 = .ok (.iload_n 3, 1) := by decide +kernel
theorem dX9_laysPauses_52 : decode cX9_laysPauses 52 = .ok (.aload_n 0, 1) := by decide +kernel
theorem dX9_laysPauses_53 : decode cX9_laysPauses 53 = .ok (.getfield 56, 3) := by decide +kernel
theorem dX9_laysPauses_56 : decode cX9_laysPauses 56 = .ok (.iload_n 3, 1) := by decide +kernel
theorem dX9_laysPauses_57 : decode cX9_laysPauses 57 = .ok (.iconst 1, 1) := by decide +kernel
theorem dX9_laysPauses_58 : decode cX9_laysPauses 58 = .ok (.isub, 1) := by decide +kernel
theorem dX9_laysPauses_59 : decode cX9_laysPauses 59 = .ok (.iaload, 1) := by decide +kernel
theorem dX9_laysPauses_60 : decode cX9_laysPauses 60 = .ok (.iastore, 1) := by decide +kernel
theorem dX9_laysPauses_61 : decode cX9_laysPauses 61 = .ok (.aload_n 0, 1) := by decide +kernel
theorem dX9_laysPauses_62 : decode cX9_laysPauses 62 = .ok (.getfield 59, 3) := by decide +kernel
theorem dX9_laysPauses_65 : decode cX9_laysPauses 65 = .ok (.iload_n 3, 1) := by decide +kernel
theorem dX9_laysPauses_66 : decode cX9_laysPauses 66 = .ok (.aload_n 0, 1) := by decide +kernel
theorem dX9_laysPauses_67 : decode cX9_laysPauses 67 = .ok (.getfield 59, 3) := by decide +kernel
theorem dX9_laysPauses_70 : decode cX9_laysPauses 70 = .ok (.iload_n 3, 1) := by decide +kernel
theorem dX9_laysPauses_71 : decode cX9_laysPauses 71 = .ok (.iconst 1, 1) := by decide +kernel
theorem dX9_laysPauses_72 : decode cX9_laysPauses 72 = .ok (.isub, 1) := by decide +kernel
theorem dX9_laysPauses_73 : decode cX9_laysPauses 73 = .ok (.iaload, 1) := by decide +kernel
theorem dX9_laysPauses_74 : decode cX9_laysPauses 74 = .ok (.iastore, 1) := by decide +kernel
theorem dX9_laysPauses_75 : decode cX9_laysPauses 75 = .ok (.iinc 3 (-1), 3) := by decide +kernel
theorem dX9_laysPauses_78 : decode cX9_laysPauses 78 = .ok (.goto (-51), 3) := by decide +kernel
theorem dX9_laysPauses_81 : decode cX9_laysPauses 81 = .ok (.aload_n 0, 1) := by decide +kernel
theorem dX9_laysPauses_82 : decode cX9_laysPauses 82 = .ok (.getfield 56, 3) := by decide +kernel
theorem dX9_laysPauses_85 : decode cX9_laysPauses 85 = .ok (.iload_n 3, 1) := by decide +kernel
theorem dX9_laysPauses_86 : decode cX9_laysPauses 86 = .ok (.aload_n 0, 1) := by decide +kernel
theorem dX9_laysPauses_87 : decode cX9_laysPauses 87 = .ok (.iload_n 2, 1) := by decide +kernel
theorem dX9_laysPauses_88 : decode cX9_laysPauses 88 = .ok (.invokevirtual 442, 3) := by decide +kernel
theorem dX9_laysPauses_91 : decode cX9_laysPauses 91 = .ok (.iastore, 1) := by decide +kernel
theorem dX9_laysPauses_92 : decode cX9_laysPauses 92 = .ok (.aload_n 0, 1) := by decide +kernel
theorem dX9_laysPauses_93 : decode cX9_laysPauses 93 = .ok (.getfield 59, 3) := by decide +kernel
theorem dX9_laysPauses_96 : decode cX9_laysPauses 96 = .ok (.iload_n 3, 1) := by decide +kernel
theorem dX9_laysPauses_97 : decode cX9_laysPauses 97 = .ok (.aload_n 0, 1) := by decide +kernel
theorem dX9_laysPauses_98 : decode cX9_laysPauses 98 = .ok (.iload_n 2, 1) := by decide +kernel
theorem dX9_laysPauses_99 : decode cX9_laysPauses 99 = .ok (.iconst 0, 1) := by decide +kernel
theorem dX9_laysPauses_100 : decode cX9_laysPauses 100 = .ok (.invokevirtual 76, 3) := by decide +kernel
theorem dX9_laysPauses_103 : decode cX9_laysPauses 103 = .ok (.iastore, 1) := by decide +kernel
theorem dX9_laysPauses_104 : decode cX9_laysPauses 104 = .ok (.iinc 1 1, 3) := by decide +kernel
theorem dX9_laysPauses_107 : decode cX9_laysPauses 107 = .ok (.iinc 2 1, 3) := by decide +kernel
theorem dX9_laysPauses_110 : decode cX9_laysPauses 110 = .ok (.goto (-106), 3) := by decide +kernel
theorem dX9_laysPauses_113 : decode cX9_laysPauses 113 = .ok (.iload_n 1, 1) := by decide +kernel
theorem dX9_laysPauses_114 : decode cX9_laysPauses 114 = .ok (.ireturn, 1) := by decide +kernel
theorem dX9_farFromMiddle_0 : decode cX9_farFromMiddle 0 = .ok (.iconst 0, 1) := by decide +kernel
theorem dX9_farFromMiddle_1 : decode cX9_farFromMiddle 1 = .ok (.istore_n 3, 1) := by decide +kernel
theorem dX9_farFromMiddle_2 : decode cX9_farFromMiddle 2 = .ok (.iload_n 1, 1) := by decide +kernel
theorem dX9_farFromMiddle_3 : decode cX9_farFromMiddle 3 = .ok (.istore 4, 2) := by decide +kernel
theorem dX9_farFromMiddle_5 : decode cX9_farFromMiddle 5 = .ok (.iload 4, 2) := by decide +kernel
theorem dX9_farFromMiddle_7 : decode cX9_farFromMiddle 7 = .ok (.iload_n 2, 1) := by decide +kernel
theorem dX9_farFromMiddle_8 : decode cX9_farFromMiddle 8 = .ok (.if_icmp .ge 35, 3) := by decide +kernel
theorem dX9_farFromMiddle_11 : decode cX9_farFromMiddle 11 = .ok (.iload_n 3, 1) := by decide +kernel
theorem dX9_farFromMiddle_12 : decode cX9_farFromMiddle 12 = .ok (.aload_n 0, 1) := by decide +kernel
theorem dX9_farFromMiddle_13 : decode cX9_farFromMiddle 13 = .ok (.getfield 56, 3) := by decide +kernel
theorem dX9_farFromMiddle_16 : decode cX9_farFromMiddle 16 = .ok (.iload 4, 2) := by decide +kernel
theorem dX9_farFromMiddle_18 : decode cX9_farFromMiddle 18 = .ok (.iaload, 1) := by decide +kernel
theorem dX9_farFromMiddle_19 : decode cX9_farFromMiddle 19 = .ok (.aload_n 0, 1) := by decide +kernel
theorem dX9_farFromMiddle_20 : decode cX9_farFromMiddle 20 = .ok (.getfield 56, 3) := by decide +kernel
theorem dX9_farFromMiddle_23 : decode cX9_farFromMiddle 23 = .ok (.iload_n 1, 1) := by decide +kernel
theorem dX9_farFromMiddle_24 : decode cX9_farFromMiddle 24 = .ok (.iload_n 2, 1) := by decide +kernel
theorem dX9_farFromMiddle_25 : decode cX9_farFromMiddle 25 = .ok (.iadd, 1) := by decide +kernel
theorem dX9_farFromMiddle_26 : decode cX9_farFromMiddle 26 = .ok (.iconst 1, 1) := by decide +kernel
theorem dX9_farFromMiddle_27 : decode cX9_farFromMiddle 27 = .ok (.isub, 1) := by decide +kernel
theorem dX9_farFromMiddle_28 : decode cX9_farFromMiddle 28 = .ok (.iconst 2, 1) := by decide +kernel
theorem dX9_farFromMiddle_29 : decode cX9_farFromMiddle 29 = .ok (.idiv, 1) := by decide +kernel
theorem dX9_farFromMiddle_30 : decode cX9_farFromMiddle 30 = .ok (.iaload, 1) := by decide +kernel
theorem dX9_farFromMiddle_31 : decode cX9_farFromMiddle 31 = .ok (.isub, 1) := by decide +kernel
theorem dX9_farFromMiddle_32 : decode cX9_farFromMiddle 32 = .ok (.invokestatic 445, 3) := by decide +kernel
theorem dX9_farFromMiddle_35 : decode cX9_farFromMiddle 35 = .ok (.iadd, 1) := by decide +kernel
theorem dX9_farFromMiddle_36 : decode cX9_farFromMiddle 36 = .ok (.istore_n 3, 1) := by decide +kernel
theorem dX9_farFromMiddle_37 : decode cX9_farFromMiddle 37 = .ok (.iinc 4 1, 3) := by decide +kernel
theorem dX9_farFromMiddle_40 : decode cX9_farFromMiddle 40 = .ok (.goto (-35), 3) := by decide +kernel
theorem dX9_farFromMiddle_43 : decode cX9_farFromMiddle 43 = .ok (.iload_n 3, 1) := by decide +kernel
theorem dX9_farFromMiddle_44 : decode cX9_farFromMiddle 44 = .ok (.ireturn, 1) := by decide +kernel
theorem dX9_split_0 : decode cX9_split 0 = .ok (.iload_n 1, 1) := by decide +kernel
theorem dX9_split_1 : decode cX9_split 1 = .ok (.iconst 0, 1) := by decide +kernel
theorem dX9_split_2 : decode cX9_split 2 = .ok (.iconst 1, 1) := by decide +kernel
theorem dX9_split_3 : decode cX9_split 3 = .ok (.invokestatic 72, 3) := by decide +kernel
theorem dX9_split_6 : decode cX9_split 6 = .ok (.ifCond .ne 5, 3) := by decide +kernel
theorem dX9_split_9 : decode cX9_split 9 = .ok (.iconst (-1), 1) := by decide +kernel
theorem dX9_split_10 : decode cX9_split 10 = .ok (.ireturn, 1) := by decide +kernel
theorem dX9_split_11 : decode cX9_split 11 = .ok (.aload_n 0, 1) := by decide +kernel
theorem dX9_split_12 : decode cX9_split 12 = .ok (.invokevirtual 448, 3) := by decide +kernel
theorem dX9_split_15 : decode cX9_split 15 = .ok (.istore_n 2, 1) := by decide +kernel
theorem dX9_split_16 : decode cX9_split 16 = .ok (.iload_n 2, 1) := by decide +kernel
theorem dX9_split_17 : decode cX9_split 17 = .ok (.iconst 2, 1) := by decide +kernel
theorem dX9_split_18 : decode cX9_split 18 = .ok (.if_icmp .ge 5, 3) := by decide +kernel
theorem dX9_split_21 : decode cX9_split 21 = .ok (.iconst (-1), 1) := by decide +kernel
theorem dX9_split_22 : decode cX9_split 22 = .ok (.ireturn, 1) := by decide +kernel
theorem dX9_split_23 : decode cX9_split 23 = .ok (.iconst 0, 1) := by decide +kernel
theorem dX9_split_24 : decode cX9_split 24 = .ok (.istore_n 3, 1) := by decide +kernel
theorem dX9_split_25 : decode cX9_split 25 = .ok (.ldc_w 414, 3) := by decide +kernel
theorem dX9_split_28 : decode cX9_split 28 = .ok (.istore 4, 2) := by decide +kernel
theorem dX9_split_30 : decode cX9_split 30 = .ok (.iconst 0, 1) := by decide +kernel
theorem dX9_split_31 : decode cX9_split 31 = .ok (.istore 5, 2) := by decide +kernel
theorem dX9_split_33 : decode cX9_split 33 = .ok (.iload 5, 2) := by decide +kernel
theorem dX9_split_35 : decode cX9_split 35 = .ok (.iload_n 2, 1) := by decide +kernel
theorem dX9_split_36 : decode cX9_split 36 = .ok (.if_icmp .gt 96, 3) := by decide +kernel
theorem dX9_split_39 : decode cX9_split 39 = .ok (.iload 5, 2) := by decide +kernel
theorem dX9_split_41 : decode cX9_split 41 = .ok (.ifCond .le 28, 3) := by decide +kernel
theorem dX9_split_44 : decode cX9_split 44 = .ok (.iload 5, 2) := by decide +kernel
theorem dX9_split_46 : decode cX9_split 46 = .ok (.iload_n 2, 1) := by decide +kernel
theorem dX9_split_47 : decode cX9_split 47 = .ok (.if_icmp .ge 22, 3) := by decide +kernel
theorem dX9_split_50 : decode cX9_split 50 = .ok (.aload_n 0, 1) := by decide +kernel
theorem dX9_split_51 : decode cX9_split 51 = .ok (.getfield 56, 3) := by decide +kernel
theorem dX9_split_54 : decode cX9_split 54 = .ok (.iload 5, 2) := by decide +kernel
theorem dX9_split_56 : decode cX9_split 56 = .ok (.iaload, 1) := by decide +kernel
theorem dX9_split_57 : decode cX9_split 57 = .ok (.aload_n 0, 1) := by decide +kernel
theorem dX9_split_58 : decode cX9_split 58 = .ok (.getfield 56, 3) := by decide +kernel
theorem dX9_split_61 : decode cX9_split 61 = .ok (.iload 5, 2) := by decide +kernel
theorem dX9_split_63 : decode cX9_split 63 = .ok (.iconst 1, 1) := by decide +kernel
theorem dX9_split_64 : decode cX9_split 64 = .ok (.isub, 1) := by decide +kernel
theorem dX9_split_65 : decode cX9_split 65 = .ok (.iaload, 1) := by decide +kernel
theorem dX9_split_66 : decode cX9_split 66 = .ok (.if_icmp .eq 60, 3) := by decide +kernel
theorem dX9_split_69 : decode cX9_split 69 = .ok (.iload 5, 2) := by decide +kernel
theorem dX9_split_71 : decode cX9_split 71 = .ok (.ifCond .le 21, 3) := by decide +kernel
theorem dX9_split_74 : decode cX9_split 74 = .ok (.aload_n 0, 1) := by decide +kernel
theorem dX9_split_75 : decode cX9_split 75 = .ok (.getfield 56, 3) := by decide +kernel
theorem dX9_split_78 : decode cX9_split 78 = .ok (.iload 5, 2) := by decide +kernel
theorem dX9_split_80 : decode cX9_split 80 = .ok (.iconst 1, 1) := by decide +kernel
theorem dX9_split_81 : decode cX9_split 81 = .ok (.isub, 1) := by decide +kernel
theorem dX9_split_82 : decode cX9_split 82 = .ok (.iaload, 1) := by decide +kernel
theorem dX9_split_83 : decode cX9_split 83 = .ok (.sipush 9999, 3) := by decide +kernel
theorem dX9_split_86 : decode cX9_split 86 = .ok (.if_icmp .lt 6, 3) := by decide +kernel
theorem dX9_split_89 : decode cX9_split 89 = .ok (.goto 37, 3) := by decide +kernel
theorem dX9_split_92 : decode cX9_split 92 = .ok (.aload_n 0, 1) := by decide +kernel
theorem dX9_split_93 : decode cX9_split 93 = .ok (.iconst 0, 1) := by decide +kernel
theorem dX9_split_94 : decode cX9_split 94 = .ok (.iload 5, 2) := by decide +kernel
theorem dX9_split_96 : decode cX9_split 96 = .ok (.invokevirtual 451, 3) := by decide +kernel
theorem dX9_split_99 : decode cX9_split 99 = .ok (.aload_n 0, 1) := by decide +kernel
theorem dX9_split_100 : decode cX9_split 100 = .ok (.iload 5, 2) := by decide +kernel
theorem dX9_split_102 : decode cX9_split 102 = .ok (.iload_n 2, 1) := by decide +kernel
theorem dX9_split_103 : decode cX9_split 103 = .ok (.invokevirtual 451, 3) := by decide +kernel
theorem dX9_split_106 : decode cX9_split 106 = .ok (.iadd, 1) := by decide +kernel
theorem dX9_split_107 : decode cX9_split 107 = .ok (.istore 6, 2) := by decide +kernel
theorem dX9_split_109 : decode cX9_split 109 = .ok (.iload 6, 2) := by decide +kernel
theorem dX9_split_111 : decode cX9_split 111 = .ok (.iload 4, 2) := by decide +kernel
theorem dX9_split_113 : decode cX9_split 113 = .ok (.if_icmp .lt 6, 3) := by decide +kernel
theorem dX9_split_116 : decode cX9_split 116 = .ok (.goto 10, 3) := by decide +kernel
theorem dX9_split_119 : decode cX9_split 119 = .ok (.iload 6, 2) := by decide +kernel
theorem dX9_split_121 : decode cX9_split 121 = .ok (.istore 4, 2) := by decide +kernel
theorem dX9_split_123 : decode cX9_split 123 = .ok (.iload 5, 2) := by decide +kernel
theorem dX9_split_125 : decode cX9_split 125 = .ok (.istore_n 3, 1) := by decide +kernel
theorem dX9_split_126 : decode cX9_split 126 = .ok (.iinc 5 1, 3) := by decide +kernel
theorem dX9_split_129 : decode cX9_split 129 = .ok (.goto (-96), 3) := by decide +kernel
theorem dX9_split_132 : decode cX9_split 132 = .ok (.iconst 0, 1) := by decide +kernel
theorem dX9_split_133 : decode cX9_split 133 = .ok (.istore 5, 2) := by decide +kernel
theorem dX9_split_135 : decode cX9_split 135 = .ok (.iconst 0, 1) := by decide +kernel
theorem dX9_split_136 : decode cX9_split 136 = .ok (.istore 6, 2) := by decide +kernel
theorem dX9_split_138 : decode cX9_split 138 = .ok (.iload 6, 2) := by decide +kernel
theorem dX9_split_140 : decode cX9_split 140 = .ok (.iload_n 3, 1) := by decide +kernel
theorem dX9_split_141 : decode cX9_split 141 = .ok (.if_icmp .ge 29, 3) := by decide +kernel
theorem dX9_split_144 : decode cX9_split 144 = .ok (.iload 5, 2) := by decide +kernel
theorem dX9_split_146 : decode cX9_split 146 = .ok (.aload_n 0, 1) := by decide +kernel
theorem dX9_split_147 : decode cX9_split 147 = .ok (.getfield 59, 3) := by decide +kernel
theorem dX9_split_150 : decode cX9_split 150 = .ok (.iload 6, 2) := by decide +kernel
theorem dX9_split_152 : decode cX9_split 152 = .ok (.iaload, 1) := by decide +kernel
theorem dX9_split_153 : decode cX9_split 153 = .ok (.ifCond .ne 7, 3) := by decide +kernel
theorem dX9_split_156 : decode cX9_split 156 = .ok (.iconst 1, 1) := by decide +kernel
theorem dX9_split_157 : decode cX9_split 157 = .ok (.goto 4, 3) := by decide +kernel
theorem dX9_split_160 : decode cX9_split 160 = .ok (.iconst 0, 1) := by decide +kernel
theorem dX9_split_161 : decode cX9_split 161 = .ok (.iadd, 1) := by decide +kernel
theorem dX9_split_162 : decode cX9_split 162 = .ok (.istore 5, 2) := by decide +kernel
theorem dX9_split_164 : decode cX9_split 164 = .ok (.iinc 6 1, 3) := by decide +kernel
theorem dX9_split_167 : decode cX9_split 167 = .ok (.goto (-29), 3) := by decide +kernel
theorem dX9_split_170 : decode cX9_split 170 = .ok (.iload_n 1, 1) := by decide +kernel
theorem dX9_split_171 : decode cX9_split 171 = .ok (.iconst 1, 1) := by decide +kernel
theorem dX9_split_172 : decode cX9_split 172 = .ok (.if_icmp .ne 8, 3) := by decide +kernel
theorem dX9_split_175 : decode cX9_split 175 = .ok (.iload 5, 2) := by decide +kernel
theorem dX9_split_177 : decode cX9_split 177 = .ok (.goto 21, 3) := by decide +kernel
theorem dX9_split_180 : decode cX9_split 180 = .ok (.iload_n 3, 1) := by decide +kernel
theorem dX9_split_181 : decode cX9_split 181 = .ok (.ifCond .ne 7, 3) := by decide +kernel
theorem dX9_split_184 : decode cX9_split 184 = .ok (.iconst 1, 1) := by decide +kernel
theorem dX9_split_185 : decode cX9_split 185 = .ok (.goto 13, 3) := by decide +kernel
theorem dX9_split_188 : decode cX9_split 188 = .ok (.aload_n 0, 1) := by decide +kernel
theorem dX9_split_189 : decode cX9_split 189 = .ok (.getfield 56, 3) := by decide +kernel
theorem dX9_split_192 : decode cX9_split 192 = .ok (.iload_n 3, 1) := by decide +kernel
theorem dX9_split_193 : decode cX9_split 193 = .ok (.iconst 1, 1) := by decide +kernel
theorem dX9_split_194 : decode cX9_split 194 = .ok (.isub, 1) := by decide +kernel
theorem dX9_split_195 : decode cX9_split 195 = .ok (.iaload, 1) := by decide +kernel
theorem dX9_split_196 : decode cX9_split 196 = .ok (.iconst 1, 1) := by decide +kernel
theorem dX9_split_197 : decode cX9_split 197 = .ok (.iadd, 1) := by decide +kernel
theorem dX9_split_198 : decode cX9_split 198 = .ok (.ireturn, 1) := by decide +kernel
theorem dX9_time_0 : decode cX9_time 0 = .ok (.iload_n 1, 1) := by decide +kernel
theorem dX9_time_1 : decode cX9_time 1 = .ok (.iconst (-1), 1) := by decide +kernel
theorem dX9_time_2 : decode cX9_time 2 = .ok (.if_icmp .ne 14, 3) := by decide +kernel
theorem dX9_time_5 : decode cX9_time 5 = .ok (.aload_n 0, 1) := by decide +kernel
theorem dX9_time_6 : decode cX9_time 6 = .ok (.getfield 7, 3) := by decide +kernel
theorem dX9_time_9 : decode cX9_time 9 = .ok (.sipush 554, 3) := by decide +kernel
theorem dX9_time_12 : decode cX9_time 12 = .ok (.iconst 0, 1) := by decide +kernel
theorem dX9_time_13 : decode cX9_time 13 = .ok (.iastore, 1) := by decide +kernel
theorem dX9_time_14 : decode cX9_time 14 = .ok (.iconst 0, 1) := by decide +kernel
theorem dX9_time_15 : decode cX9_time 15 = .ok (.ireturn, 1) := by decide +kernel
theorem dX9_time_16 : decode cX9_time 16 = .ok (.iload_n 1, 1) := by decide +kernel
theorem dX9_time_17 : decode cX9_time 17 = .ok (.iconst 0, 1) := by decide +kernel
theorem dX9_time_18 : decode cX9_time 18 = .ok (.sipush 1439, 3) := by decide +kernel
theorem dX9_time_21 : decode cX9_time 21 = .ok (.invokestatic 72, 3) := by decide +kernel
theorem dX9_time_24 : decode cX9_time 24 = .ok (.ifCond .eq 16, 3) := by decide +kernel
theorem dX9_time_27 : decode cX9_time 27 = .ok (.aload_n 0, 1) := by decide +kernel
theorem dX9_time_28 : decode cX9_time 28 = .ok (.getfield 7, 3) := by decide +kernel
theorem dX9_time_31 : decode cX9_time 31 = .ok (.sipush 554, 3) := by decide +kernel
theorem dX9_time_34 : decode cX9_time 34 = .ok (.iaload, 1) := by decide +kernel
theorem dX9_time_35 : decode cX9_time 35 = .ok (.bipush 10, 2) := by decide +kernel
theorem dX9_time_37 : decode cX9_time 37 = .ok (.if_icmp .ne 5, 3) := by decide +kernel
theorem dX9_time_40 : decode cX9_time 40 = .ok (.iconst (-1), 1) := by decide +kernel
theorem dX9_time_41 : decode cX9_time 41 = .ok (.ireturn, 1) := by decide +kernel
theorem dX9_time_42 : decode cX9_time 42 = .ok (.aload_n 0, 1) := by decide +kernel
theorem dX9_time_43 : decode cX9_time 43 = .ok (.getfield 7, 3) := by decide +kernel
theorem dX9_time_46 : decode cX9_time 46 = .ok (.sipush 715, 3) := by decide +kernel
theorem dX9_time_49 : decode cX9_time 49 = .ok (.aload_n 0, 1) := by decide +kernel
theorem dX9_time_50 : decode cX9_time 50 = .ok (.getfield 7, 3) := by decide +kernel
theorem dX9_time_53 : decode cX9_time 53 = .ok (.sipush 554, 3) := by decide +kernel
theorem dX9_time_56 : decode cX9_time 56 = .ok (.iaload, 1) := by decide +kernel
theorem dX9_time_57 : decode cX9_time 57 = .ok (.iadd, 1) := by decide +kernel
theorem dX9_time_58 : decode cX9_time 58 = .ok (.iload_n 1, 1) := by decide +kernel
theorem dX9_time_59 : decode cX9_time 59 = .ok (.iastore, 1) := by decide +kernel
theorem dX9_time_60 : decode cX9_time 60 = .ok (.aload_n 0, 1) := by decide +kernel
theorem dX9_time_61 : decode cX9_time 61 = .ok (.getfield 7, 3) := by decide +kernel
theorem dX9_time_64 : decode cX9_time 64 = .ok (.sipush 554, 3) := by decide +kernel
theorem dX9_time_67 : decode cX9_time 67 = .ok (.dup2, 1) := by decide +kernel
theorem dX9_time_68 : decode cX9_time 68 = .ok (.iaload, 1) := by decide +kernel
theorem dX9_time_69 : decode cX9_time 69 = .ok (.iconst 1, 1) := by decide +kernel
theorem dX9_time_70 : decode cX9_time 70 = .ok (.iadd, 1) := by decide +kernel
theorem dX9_time_71 : decode cX9_time 71 = .ok (.iastore, 1) := by decide +kernel
theorem dX9_time_72 : decode cX9_time 72 = .ok (.aload_n 0, 1) := by decide +kernel
theorem dX9_time_73 : decode cX9_time 73 = .ok (.getfield 7, 3) := by decide +kernel
theorem dX9_time_76 : decode cX9_time 76 = .ok (.sipush 554, 3) := by decide +kernel
theorem dX9_time_79 : decode cX9_time 79 = .ok (.iaload, 1) := by decide +kernel
theorem dX9_time_80 : decode cX9_time 80 = .ok (.ireturn, 1) := by decide +kernel
theorem dX9_isBusOf_0 : decode cX9_isBusOf 0 = .ok (.iconst 0, 1) := by decide +kernel
theorem dX9_isBusOf_1 : decode cX9_isBusOf 1 = .ok (.istore_n 3, 1) := by decide +kernel
theorem dX9_isBusOf_2 : decode cX9_isBusOf 2 = .ok (.iload_n 3, 1) := by decide +kernel
theorem dX9_isBusOf_3 : decode cX9_isBusOf 3 = .ok (.aload_n 0, 1) := by decide +kernel
theorem dX9_isBusOf_4 : decode cX9_isBusOf 4 = .ok (.getfield 7, 3) := by decide +kernel
theorem dX9_isBusOf_7 : decode cX9_isBusOf 7 = .ok (.sipush 554, 3) := by decide +kernel
theorem dX9_isBusOf_10 : decode cX9_isBusOf 10 = .ok (.iaload, 1) := by decide +kernel
theorem dX9_isBusOf_11 : decode cX9_isBusOf 11 = .ok (.if_icmp .ge 43, 3) := by decide +kernel
theorem dX9_isBusOf_14 : decode cX9_isBusOf 14 = .ok (.aload_n 0, 1) := by decide +kernel
theorem dX9_isBusOf_15 : decode cX9_isBusOf 15 = .ok (.getfield 7, 3) := by decide +kernel
theorem dX9_isBusOf_18 : decode cX9_isBusOf 18 = .ok (.sipush 715, 3) := by decide +kernel
theorem dX9_isBusOf_21 : decode cX9_isBusOf 21 = .ok (.iload_n 3, 1) := by decide +kernel
theorem dX9_isBusOf_22 : decode cX9_isBusOf 22 = .ok (.iadd, 1) := by decide +kernel
theorem dX9_isBusOf_23 : decode cX9_isBusOf 23 = .ok (.iaload, 1) := by decide +kernel
theorem dX9_isBusOf_24 : decode cX9_isBusOf 24 = .ok (.iload_n 1, 1) := by decide +kernel
theorem dX9_isBusOf_25 : decode cX9_isBusOf 25 = .ok (.if_icmp .lt 21, 3) := by decide +kernel
theorem dX9_isBusOf_28 : decode cX9_isBusOf 28 = .ok (.aload_n 0, 1) := by decide +kernel
theorem dX9_isBusOf_29 : decode cX9_isBusOf 29 = .ok (.getfield 7, 3) := by decide +kernel
theorem dX9_isBusOf_32 : decode cX9_isBusOf 32 = .ok (.sipush 715, 3) := by decide +kernel
theorem dX9_isBusOf_35 : decode cX9_isBusOf 35 = .ok (.iload_n 3, 1) := by decide +kernel
theorem dX9_isBusOf_36 : decode cX9_isBusOf 36 = .ok (.iadd, 1) := by decide +kernel
theorem dX9_isBusOf_37 : decode cX9_isBusOf 37 = .ok (.iaload, 1) := by decide +kernel
theorem dX9_isBusOf_38 : decode cX9_isBusOf 38 = .ok (.iload_n 1, 1) := by decide +kernel
theorem dX9_isBusOf_39 : decode cX9_isBusOf 39 = .ok (.isub, 1) := by decide +kernel
theorem dX9_isBusOf_40 : decode cX9_isBusOf 40 = .ok (.iload_n 2, 1) := by decide +kernel
theorem dX9_isBusOf_41 : decode cX9_isBusOf 41 = .ok (.irem, 1) := by decide +kernel
theorem dX9_isBusOf_42 : decode cX9_isBusOf 42 = .ok (.iconst 1, 1) := by decide +kernel
theorem dX9_isBusOf_43 : decode cX9_isBusOf 43 = .ok (.if_icmp .le 5, 3) := by decide +kernel
theorem dX9_isBusOf_46 : decode cX9_isBusOf 46 = .ok (.iconst 0, 1) := by decide +kernel
theorem dX9_isBusOf_47 : decode cX9_isBusOf 47 = .ok (.ireturn, 1) := by decide +kernel
theorem dX9_isBusOf_48 : decode cX9_isBusOf 48 = .ok (.iinc 3 1, 3) := by decide +kernel
theorem dX9_isBusOf_51 : decode cX9_isBusOf 51 = .ok (.goto (-49), 3) := by decide +kernel
theorem dX9_isBusOf_54 : decode cX9_isBusOf 54 = .ok (.iconst 1, 1) := by decide +kernel
theorem dX9_isBusOf_55 : decode cX9_isBusOf 55 = .ok (.ireturn, 1) := by decide +kernel
theorem dX9_fits_0 : decode cX9_fits 0 = .ok (.iload_n 1, 1) := by decide +kernel
theorem dX9_fits_1 : decode cX9_fits 1 = .ok (.iconst 0, 1) := by decide +kernel
theorem dX9_fits_2 : decode cX9_fits 2 = .ok (.iconst 2, 1) := by decide +kernel
theorem dX9_fits_3 : decode cX9_fits 3 = .ok (.invokestatic 72, 3) := by decide +kernel
theorem dX9_fits_6 : decode cX9_fits 6 = .ok (.ifCond .ne 5, 3) := by decide +kernel
theorem dX9_fits_9 : decode cX9_fits 9 = .ok (.iconst (-1), 1) := by decide +kernel
theorem dX9_fits_10 : decode cX9_fits 10 = .ok (.ireturn, 1) := by decide +kernel
theorem dX9_fits_11 : decode cX9_fits 11 = .ok (.iconst 0, 1) := by decide +kernel
theorem dX9_fits_12 : decode cX9_fits 12 = .ok (.istore_n 2, 1) := by decide +kernel
theorem dX9_fits_13 : decode cX9_fits 13 = .ok (.iconst (-1), 1) := by decide +kernel
theorem dX9_fits_14 : decode cX9_fits 14 = .ok (.istore_n 3, 1) := by decide +kernel
theorem dX9_fits_15 : decode cX9_fits 15 = .ok (.iconst (-1), 1) := by decide +kernel
theorem dX9_fits_16 : decode cX9_fits 16 = .ok (.istore 4, 2) := by decide +kernel
theorem dX9_fits_18 : decode cX9_fits 18 = .ok (.bipush 10, 2) := by decide +kernel
theorem dX9_fits_20 : decode cX9_fits 20 = .ok (.istore 5, 2) := by decide +kernel
theorem dX9_fits_22 : decode cX9_fits 22 = .ok (.iload 5, 2) := by decide +kernel
theorem dX9_fits_24 : decode cX9_fits 24 = .ok (.bipush 60, 2) := by decide +kernel
theorem dX9_fits_26 : decode cX9_fits 26 = .ok (.if_icmp .gt 50, 3) := by decide +kernel
theorem dX9_fits_29 : decode cX9_fits 29 = .ok (.iload 5, 2) := by decide +kernel
theorem dX9_fits_31 : decode cX9_fits 31 = .ok (.iconst 1, 1) := by decide +kernel
theorem dX9_fits_32 : decode cX9_fits 32 = .ok (.isub, 1) := by decide +kernel
theorem dX9_fits_33 : decode cX9_fits 33 = .ok (.istore 6, 2) := by decide +kernel
theorem dX9_fits_35 : decode cX9_fits 35 = .ok (.iload 6, 2) := by decide +kernel
theorem dX9_fits_37 : decode cX9_fits 37 = .ok (.ifCond .lt 33, 3) := by decide +kernel
theorem dX9_fits_40 : decode cX9_fits 40 = .ok (.aload_n 0, 1) := by decide +kernel
theorem dX9_fits_41 : decode cX9_fits 41 = .ok (.iload 6, 2) := by decide +kernel
theorem dX9_fits_43 : decode cX9_fits 43 = .ok (.iload 5, 2) := by decide +kernel
theorem dX9_fits_45 : decode cX9_fits 45 = .ok (.invokevirtual 454, 3) := by decide +kernel
theorem dX9_fits_48 : decode cX9_fits 48 = .ok (.ifCond .ne 6, 3) := by decide +kernel
theorem dX9_fits_51 : decode cX9_fits 51 = .ok (.goto 13, 3) := by decide +kernel
theorem dX9_fits_54 : decode cX9_fits 54 = .ok (.iinc 2 1, 3) := by decide +kernel
theorem dX9_fits_57 : decode cX9_fits 57 = .ok (.iload 5, 2) := by decide +kernel
theorem dX9_fits_59 : decode cX9_fits 59 = .ok (.istore_n 3, 1) := by decide +kernel
theorem dX9_fits_60 : decode cX9_fits 60 = .ok (.iload 6, 2) := by decide +kernel
theorem dX9_fits_62 : decode cX9_fits 62 = .ok (.istore 4, 2) := by decide +kernel
theorem dX9_fits_64 : decode cX9_fits 64 = .ok (.iinc 6 (-1), 3) := by decide +kernel
theorem dX9_fits_67 : decode cX9_fits 67 = .ok (.goto (-32), 3) := by decide +kernel
theorem dX9_fits_70 : decode cX9_fits 70 = .ok (.iinc 5 1, 3) := by decide +kernel
theorem dX9_fits_73 : decode cX9_fits 73 = .ok (.goto (-51), 3) := by decide +kernel
theorem dX9_fits_76 : decode cX9_fits 76 = .ok (.iload_n 1, 1) := by decide +kernel
theorem dX9_fits_77 : decode cX9_fits 77 = .ok (.ifCond .ne 7, 3) := by decide +kernel
theorem dX9_fits_80 : decode cX9_fits 80 = .ok (.iload_n 2, 1) := by decide +kernel
theorem dX9_fits_81 : decode cX9_fits 81 = .ok (.goto 14, 3) := by decide +kernel
theorem dX9_fits_84 : decode cX9_fits 84 = .ok (.iload_n 1, 1) := by decide +kernel
theorem dX9_fits_85 : decode cX9_fits 85 = .ok (.iconst 1, 1) := by decide +kernel
theorem dX9_fits_86 : decode cX9_fits 86 = .ok (.if_icmp .ne 7, 3) := by decide +kernel
theorem dX9_fits_89 : decode cX9_fits 89 = .ok (.iload_n 3, 1) := by decide +kernel
theorem dX9_fits_90 : decode cX9_fits 90 = .ok (.goto 5, 3) := by decide +kernel
theorem dX9_fits_93 : decode cX9_fits 93 = .ok (.iload 4, 2) := by decide +kernel
theorem dX9_fits_95 : decode cX9_fits 95 = .ok (.ireturn, 1) := by decide +kernel
theorem dX9_heapOf_0 : decode cX9_heapOf 0 = .ok (.aload_n 0, 1) := by decide +kernel
theorem dX9_heapOf_1 : decode cX9_heapOf 1 = .ok (.iload_n 1, 1) := by decide +kernel
theorem dX9_heapOf_2 : decode cX9_heapOf 2 = .ok (.invokevirtual 354, 3) := by decide +kernel
theorem dX9_heapOf_5 : decode cX9_heapOf 5 = .ok (.ifCond .eq 21, 3) := by decide +kernel
theorem dX9_heapOf_8 : decode cX9_heapOf 8 = .ok (.aload_n 0, 1) := by decide +kernel
theorem dX9_heapOf_9 : decode cX9_heapOf 9 = .ok (.iload_n 1, 1) := by decide +kernel
theorem dX9_heapOf_10 : decode cX9_heapOf 10 = .ok (.iconst 3, 1) := by decide +kernel
theorem dX9_heapOf_11 : decode cX9_heapOf 11 = .ok (.invokevirtual 76, 3) := by decide +kernel
theorem dX9_heapOf_14 : decode cX9_heapOf 14 = .ok (.aload_n 0, 1) := by decide +kernel
theorem dX9_heapOf_15 : decode cX9_heapOf 15 = .ok (.iload_n 1, 1) := by decide +kernel
theorem dX9_heapOf_16 : decode cX9_heapOf 16 = .ok (.iconst 4, 1) := by decide +kernel
theorem dX9_heapOf_17 : decode cX9_heapOf 17 = .ok (.invokevirtual 76, 3) := by decide +kernel
theorem dX9_heapOf_20 : decode cX9_heapOf 20 = .ok (.iconst 2, 1) := by decide +kernel
theorem dX9_heapOf_21 : decode cX9_heapOf 21 = .ok (.iadd, 1) := by decide +kernel
theorem dX9_heapOf_22 : decode cX9_heapOf 22 = .ok (.irem, 1) := by decide +kernel
theorem dX9_heapOf_23 : decode cX9_heapOf 23 = .ok (.goto 4, 3) := by decide +kernel
theorem dX9_heapOf_26 : decode cX9_heapOf 26 = .ok (.iconst 0, 1) := by decide +kernel
theorem dX9_heapOf_27 : decode cX9_heapOf 27 = .ok (.ireturn, 1) := by decide +kernel
theorem dX9_game_0 : decode cX9_game 0 = .ok (.iload_n 1, 1) := by decide +kernel
theorem dX9_game_1 : decode cX9_game 1 = .ok (.iconst 0, 1) := by decide +kernel
theorem dX9_game_2 : decode cX9_game 2 = .ok (.iconst 1, 1) := by decide +kernel
theorem dX9_game_3 : decode cX9_game 3 = .ok (.invokestatic 72, 3) := by decide +kernel
theorem dX9_game_6 : decode cX9_game 6 = .ok (.ifCond .ne 5, 3) := by decide +kernel
theorem dX9_game_9 : decode cX9_game 9 = .ok (.iconst (-1), 1) := by decide +kernel
theorem dX9_game_10 : decode cX9_game 10 = .ok (.ireturn, 1) := by decide +kernel
theorem dX9_game_11 : decode cX9_game 11 = .ok (.iconst 0, 1) := by decide +kernel
theorem dX9_game_12 : decode cX9_game 12 = .ok (.istore_n 2, 1) := by decide +kernel
theorem dX9_game_13 : decode cX9_game 13 = .ok (.iconst 0, 1) := by decide +kernel
theorem dX9_game_14 : decode cX9_game 14 = .ok (.istore_n 3, 1) := by decide +kernel
theorem dX9_game_15 : decode cX9_game 15 = .ok (.iload_n 3, 1) := by decide +kernel
theorem dX9_game_16 : decode cX9_game 16 = .ok (.aload_n 0, 1) := by decide +kernel
theorem dX9_game_17 : decode cX9_game 17 = .ok (.getfield 7, 3) := by decide +kernel
theorem dX9_game_20 : decode cX9_game 20 = .ok (.iconst 3, 1) := by decide +kernel
theorem dX9_game_21 : decode cX9_game 21 = .ok (.iaload, 1) := by decide +kernel
theorem dX9_game_22 : decode cX9_game 22 = .ok (.if_icmp .ge 17, 3) := by decide +kernel
theorem dX9_game_25 : decode cX9_game 25 = .ok (.iload_n 2, 1) := by decide +kernel
theorem dX9_game_26 : decode cX9_game 26 = .ok (.aload_n 0, 1) := by decide +kernel
theorem dX9_game_27 : decode cX9_game 27 = .ok (.iload_n 3, 1) := by decide +kernel
theorem dX9_game_28 : decode cX9_game 28 = .ok (.invokevirtual 457, 3) := by decide +kernel
theorem dX9_game_31 : decode cX9_game 31 = .ok (.ixor, 1) := by decide +kernel
theorem dX9_game_32 : decode cX9_game 32 = .ok (.istore_n 2, 1) := by decide +kernel
theorem dX9_game_33 : decode cX9_game 33 = .ok (.iinc 3 1, 3) := by decide +kernel
theorem dX9_game_36 : decode cX9_game 36 = .ok (.goto (-21), 3) := by decide +kernel
theorem dX9_game_39 : decode cX9_game 39 = .ok (.iconst 0, 1) := by decide +kernel
theorem dX9_game_40 : decode cX9_game 40 = .ok (.istore_n 3, 1) := by decide +kernel
theorem dX9_game_41 : decode cX9_game 41 = .ok (.iload_n 3, 1) := by decide +kernel
theorem dX9_game_42 : decode cX9_game 42 = .ok (.aload_n 0, 1) := by decide +kernel
theorem dX9_game_43 : decode cX9_game 43 = .ok (.getfield 7, 3) := by decide +kernel
theorem dX9_game_46 : decode cX9_game 46 = .ok (.iconst 3, 1) := by decide +kernel
theorem dX9_game_47 : decode cX9_game 47 = .ok (.iaload, 1) := by decide +kernel
theorem dX9_game_48 : decode cX9_game 48 = .ok (.if_icmp .ge 94, 3) := by decide +kernel
theorem dX9_game_51 : decode cX9_game 51 = .ok (.iconst 1, 1) := by decide +kernel
theorem dX9_game_52 : decode cX9_game 52 = .ok (.istore 4, 2) := by decide +kernel
theorem dX9_game_54 : decode cX9_game 54 = .ok (.aload_n 0, 1) := by decide +kernel
theorem dX9_game_55 : decode cX9_game 55 = .ok (.iload_n 3, 1) := by decide +kernel
theorem dX9_game_56 : decode cX9_game 56 = .ok (.invokevirtual 354, 3) := by decide +kernel
theorem dX9_game_59 : decode cX9_game 59 = .ok (.ifCond .eq 77, 3) := by decide +kernel
theorem dX9_game_62 : decode cX9_game 62 = .ok (.iload 4, 2) := by decide +kernel
theorem dX9_game_64 : decode cX9_game 64 = .ok (.aload_n 0, 1) := by decide +kernel
theorem dX9_game_65 : decode cX9_game 65 = .ok (.iload_n 3, 1) := by decide +kernel
theorem dX9_game_66 : decode cX9_game 66 = .ok (.iconst 4, 1) := by decide +kernel
theorem dX9_game_67 : decode cX9_game 67 = .ok (.invokevirtual 76, 3) := by decide +kernel
theorem dX9_game_70 : decode cX9_game 70 = .ok (.iconst 1, 1) := by decide +kernel
theorem dX9_game_71 : decode cX9_game 71 = .ok (.iadd, 1) := by decide +kernel
theorem dX9_game_72 : decode cX9_game 72 = .ok (.if_icmp .gt 64, 3) := by decide +kernel
theorem dX9_game_75 : decode cX9_game 75 = .ok (.iload 4, 2) := by decide +kernel
theorem dX9_game_77 : decode cX9_game 77 = .ok (.aload_n 0, 1) := by decide +kernel
theorem dX9_game_78 : decode cX9_game 78 = .ok (.iload_n 3, 1) := by decide +kernel
theorem dX9_game_79 : decode cX9_game 79 = .ok (.iconst 3, 1) := by decide +kernel
theorem dX9_game_80 : decode cX9_game 80 = .ok (.invokevirtual 76, 3) := by decide +kernel
theorem dX9_game_83 : decode cX9_game 83 = .ok (.if_icmp .gt 53, 3) := by decide +kernel
theorem dX9_game_86 : decode cX9_game 86 = .ok (.aload_n 0, 1) := by decide +kernel
theorem dX9_game_87 : decode cX9_game 87 = .ok (.iload_n 3, 1) := by decide +kernel
theorem dX9_game_88 : decode cX9_game 88 = .ok (.iconst 3, 1) := by decide +kernel
theorem dX9_game_89 : decode cX9_game 89 = .ok (.invokevirtual 76, 3) := by decide +kernel
theorem dX9_game_92 : decode cX9_game 92 = .ok (.iload 4, 2) := by decide +kernel
theorem dX9_game_94 : decode cX9_game 94 = .ok (.isub, 1) := by decide +kernel
theorem dX9_game_95 : decode cX9_game 95 = .ok (.aload_n 0, 1) := by decide +kernel
theorem dX9_game_96 : decode cX9_game 96 = .ok (.iload_n 3, 1) := by decide +kernel
theorem dX9_game_97 : decode cX9_game 97 = .ok (.iconst 4, 1) := by decide +kernel
theorem dX9_game_98 : decode cX9_game 98 = .ok (.invokevirtual 76, 3) := by decide +kernel
theorem dX9_game_101 : decode cX9_game 101 = .ok (.iconst 2, 1) := by decide +kernel
theorem dX9_game_102 : decode cX9_game 102 = .ok (.iadd, 1) := by decide +kernel
theorem dX9_game_103 : decode cX9_game 103 = .ok (.irem, 1) := by decide +kernel
theorem dX9_game_104 : decode cX9_game 104 = .ok (.istore 5, 2) := by decide +kernel
theorem dX9_game_106 : decode cX9_game 106 = .ok (.iload_n 2, 1) := by decide +kernel
theorem dX9_game_107 : decode cX9_game 107 = .ok (.aload_n 0, 1) := by decide +kernel
theorem dX9_game_108 : decode cX9_game 108 = .ok (.iload_n 3, 1) := by decide +kernel
theorem dX9_game_109 : decode cX9_game 109 = .ok (.invokevirtual 457, 3) := by decide +kernel
theorem dX9_game_112 : decode cX9_game 112 = .ok (.ixor, 1) := by decide +kernel
theorem dX9_game_113 : decode cX9_game 113 = .ok (.iload 5, 2) := by decide +kernel
theorem dX9_game_115 : decode cX9_game 115 = .ok (.ixor, 1) := by decide +kernel
theorem dX9_game_116 : decode cX9_game 116 = .ok (.ifCond .ne 14, 3) := by decide +kernel
theorem dX9_game_119 : decode cX9_game 119 = .ok (.iload_n 1, 1) := by decide +kernel
theorem dX9_game_120 : decode cX9_game 120 = .ok (.ifCond .ne 7, 3) := by decide +kernel
theorem dX9_game_123 : decode cX9_game 123 = .ok (.iload_n 3, 1) := by decide +kernel
theorem dX9_game_124 : decode cX9_game 124 = .ok (.goto 5, 3) := by decide +kernel
theorem dX9_game_127 : decode cX9_game 127 = .ok (.iload 4, 2) := by decide +kernel
theorem dX9_game_129 : decode cX9_game 129 = .ok (.ireturn, 1) := by decide +kernel
theorem dX9_game_130 : decode cX9_game 130 = .ok (.iinc 4 1, 3) := by decide +kernel
theorem dX9_game_133 : decode cX9_game 133 = .ok (.goto (-79), 3) := by decide +kernel
theorem dX9_game_136 : decode cX9_game 136 = .ok (.iinc 3 1, 3) := by decide +kernel
theorem dX9_game_139 : decode cX9_game 139 = .ok (.goto (-98), 3) := by decide +kernel
theorem dX9_game_142 : decode cX9_game 142 = .ok (.iconst (-1), 1) := by decide +kernel
theorem dX9_game_143 : decode cX9_game 143 = .ok (.ireturn, 1) := by decide +kernel
theorem dX9_table_0 : decode cX9_table 0 = .ok (.iload_n 1, 1) := by decide +kernel
theorem dX9_table_1 : decode cX9_table 1 = .ok (.iconst 0, 1) := by decide +kernel
theorem dX9_table_2 : decode cX9_table 2 = .ok (.iconst 3, 1) := by decide +kernel
theorem dX9_table_3 : decode cX9_table 3 = .ok (.invokestatic 72, 3) := by decide +kernel
theorem dX9_table_6 : decode cX9_table 6 = .ok (.ifCond .eq 23, 3) := by decide +kernel
theorem dX9_table_9 : decode cX9_table 9 = .ok (.iload_n 2, 1) := by decide +kernel
theorem dX9_table_10 : decode cX9_table 10 = .ok (.iconst 0, 1) := by decide +kernel
theorem dX9_table_11 : decode cX9_table 11 = .ok (.bipush 99, 2) := by decide +kernel
theorem dX9_table_13 : decode cX9_table 13 = .ok (.invokestatic 72, 3) := by decide +kernel
theorem dX9_table_16 : decode cX9_table 16 = .ok (.ifCond .eq 13, 3) := by decide +kernel
theorem dX9_table_19 : decode cX9_table 19 = .ok (.iload_n 3, 1) := by decide +kernel
theorem dX9_table_20 : decode cX9_table 20 = .ok (.iconst 0, 1) := by decide +kernel
theorem dX9_table_21 : decode cX9_table 21 = .ok (.bipush 99, 2) := by decide +kernel
theorem dX9_table_23 : decode cX9_table 23 = .ok (.invokestatic 72, 3) := by decide +kernel
theorem dX9_table_26 : decode cX9_table 26 = .ok (.ifCond .ne 5, 3) := by decide +kernel
theorem dX9_table_29 : decode cX9_table 29 = .ok (.iconst 0, 1) := by decide +kernel
theorem dX9_table_30 : decode cX9_table 30 = .ok (.ireturn, 1) := by decide +kernel
theorem dX9_table_31 : decode cX9_table 31 = .ok (.aload_n 0, 1) := by decide +kernel
theorem dX9_table_32 : decode cX9_table 32 = .ok (.getfield 7, 3) := by decide +kernel
theorem dX9_table_35 : decode cX9_table 35 = .ok (.sipush 725, 3) := by decide +kernel
theorem dX9_table_38 : decode cX9_table 38 = .ok (.iconst 2, 1) := by decide +kernel
theorem dX9_table_39 : decode cX9_table 39 = .ok (.iload_n 1, 1) := by decide +kernel
theorem dX9_table_40 : decode cX9_table 40 = .ok (.imul, 1) := by decide +kernel
theorem dX9_table_41 : decode cX9_table 41 = .ok (.iadd, 1) := by decide +kernel
theorem dX9_table_42 : decode cX9_table 42 = .ok (.iload_n 2, 1) := by decide +kernel
theorem dX9_table_43 : decode cX9_table 43 = .ok (.iastore, 1) := by decide +kernel
theorem dX9_table_44 : decode cX9_table 44 = .ok (.aload_n 0, 1) := by decide +kernel
theorem dX9_table_45 : decode cX9_table 45 = .ok (.getfield 7, 3) := by decide +kernel
theorem dX9_table_48 : decode cX9_table 48 = .ok (.sipush 725, 3) := by decide +kernel
theorem dX9_table_51 : decode cX9_table 51 = .ok (.iconst 2, 1) := by decide +kernel
theorem dX9_table_52 : decode cX9_table 52 = .ok (.iload_n 1, 1) := by decide +kernel
theorem dX9_table_53 : decode cX9_table 53 = .ok (.imul, 1) := by decide +kernel
theorem dX9_table_54 : decode cX9_table 54 = .ok (.iadd, 1) := by decide +kernel
theorem dX9_table_55 : decode cX9_table 55 = .ok (.iconst 1, 1) := by decide +kernel
theorem dX9_table_56 : decode cX9_table 56 = .ok (.iadd, 1) := by decide +kernel
theorem dX9_table_57 : decode cX9_table 57 = .ok (.iload_n 3, 1) := by decide +kernel
theorem dX9_table_58 : decode cX9_table 58 = .ok (.iastore, 1) := by decide +kernel
theorem dX9_table_59 : decode cX9_table 59 = .ok (.iconst 1, 1) := by decide +kernel
theorem dX9_table_60 : decode cX9_table 60 = .ok (.ireturn, 1) := by decide +kernel
theorem dX9_rests_0 : decode cX9_rests 0 = .ok (.iconst 0, 1) := by decide +kernel
theorem dX9_rests_1 : decode cX9_rests 1 = .ok (.istore_n 1, 1) := by decide +kernel
theorem dX9_rests_2 : decode cX9_rests 2 = .ok (.iconst 0, 1) := by decide +kernel
theorem dX9_rests_3 : decode cX9_rests 3 = .ok (.istore_n 2, 1) := by decide +kernel
theorem dX9_rests_4 : decode cX9_rests 4 = .ok (.iload_n 2, 1) := by decide +kernel
theorem dX9_rests_5 : decode cX9_rests 5 = .ok (.iconst 4, 1) := by decide +kernel
theorem dX9_rests_6 : decode cX9_rests 6 = .ok (.if_icmp .ge 81, 3) := by decide +kernel
theorem dX9_rests_9 : decode cX9_rests 9 = .ok (.iload_n 1, 1) := by decide +kernel
theorem dX9_rests_10 : decode cX9_rests 10 = .ok (.aload_n 0, 1) := by decide +kernel
theorem dX9_rests_11 : decode cX9_rests 11 = .ok (.getfield 7, 3) := by decide +kernel
theorem dX9_rests_14 : decode cX9_rests 14 = .ok (.sipush 725, 3) := by decide +kernel
theorem dX9_rests_17 : decode cX9_rests 17 = .ok (.iconst 2, 1) := by decide +kernel
theorem dX9_rests_18 : decode cX9_rests 18 = .ok (.iload_n 2, 1) := by decide +kernel
theorem dX9_rests_19 : decode cX9_rests 19 = .ok (.iconst 2, 1) := by decide +kernel
theorem dX9_rests_20 : decode cX9_rests 20 = .ok (.ixor, 1) := by decide +kernel
theorem dX9_rests_21 : decode cX9_rests 21 = .ok (.imul, 1) := by decide +kernel
theorem dX9_rests_22 : decode cX9_rests 22 = .ok (.iadd, 1) := by decide +kernel
theorem dX9_rests_23 : decode cX9_rests 23 = .ok (.iaload, 1) := by decide +kernel
theorem dX9_rests_24 : decode cX9_rests 24 = .ok (.aload_n 0, 1) := by decide +kernel
theorem dX9_rests_25 : decode cX9_rests 25 = .ok (.getfield 7, 3) := by decide +kernel
theorem dX9_rests_28 : decode cX9_rests 28 = .ok (.sipush 725, 3) := by decide +kernel
theorem dX9_rests_31 : decode cX9_rests 31 = .ok (.iconst 2, 1) := by decide +kernel
theorem dX9_rests_32 : decode cX9_rests 32 = .ok (.iload_n 2, 1) := by decide +kernel
theorem dX9_rests_33 : decode cX9_rests 33 = .ok (.imul, 1) := by decide +kernel
theorem dX9_rests_34 : decode cX9_rests 34 = .ok (.iadd, 1) := by decide +kernel
theorem dX9_rests_35 : decode cX9_rests 35 = .ok (.iaload, 1) := by decide +kernel
theorem dX9_rests_36 : decode cX9_rests 36 = .ok (.if_icmp .lt 42, 3) := by decide +kernel
theorem dX9_rests_39 : decode cX9_rests 39 = .ok (.aload_n 0, 1) := by decide +kernel
theorem dX9_rests_40 : decode cX9_rests 40 = .ok (.getfield 7, 3) := by decide +kernel
theorem dX9_rests_43 : decode cX9_rests 43 = .ok (.sipush 725, 3) := by decide +kernel
theorem dX9_rests_46 : decode cX9_rests 46 = .ok (.iconst 2, 1) := by decide +kernel
theorem dX9_rests_47 : decode cX9_rests 47 = .ok (.iload_n 2, 1) := by decide +kernel
theorem dX9_rests_48 : decode cX9_rests 48 = .ok (.iconst 1, 1) := by decide +kernel
theorem dX9_rests_49 : decode cX9_rests 49 = .ok (.ixor, 1) := by decide +kernel
theorem dX9_rests_50 : decode cX9_rests 50 = .ok (.imul, 1) := by decide +kernel
theorem dX9_rests_51 : decode cX9_rests 51 = .ok (.iadd, 1) := by decide +kernel
theorem dX9_rests_52 : decode cX9_rests 52 = .ok (.iconst 1, 1) := by decide +kernel
theorem dX9_rests_53 : decode cX9_rests 53 = .ok (.iadd, 1) := by decide +kernel
theorem dX9_rests_54 : decode cX9_rests 54 = .ok (.iaload, 1) := by decide +kernel
theorem dX9_rests_55 : decode cX9_rests 55 = .ok (.aload_n 0, 1) := by decide +kernel
theorem dX9_rests_56 : decode cX9_rests 56 = .ok (.getfield 7, 3) := by decide +kernel
theorem dX9_rests_59 : decode cX9_rests 59 = .ok (.sipush 725, 3) := by decide +kernel
theorem dX9_rests_62 : decode cX9_rests 62 = .ok (.iconst 2, 1) := by decide +kernel
theorem dX9_rests_63 : decode cX9_rests 63 = .ok (.iload_n 2, 1) := by decide +kernel
theorem dX9_rests_64 : decode cX9_rests 64 = .ok (.imul, 1) := by decide +kernel
theorem dX9_rests_65 : decode cX9_rests 65 = .ok (.iadd, 1) := by decide +kernel
theorem dX9_rests_66 : decode cX9_rests 66 = .ok (.iconst 1, 1) := by decide +kernel
theorem dX9_rests_67 : decode cX9_rests 67 = .ok (.iadd, 1) := by decide +kernel
theorem dX9_rests_68 : decode cX9_rests 68 = .ok (.iaload, 1) := by decide +kernel
theorem dX9_rests_69 : decode cX9_rests 69 = .ok (.if_icmp .lt 9, 3) := by decide +kernel
theorem dX9_rests_72 : decode cX9_rests 72 = .ok (.iconst 1, 1) := by decide +kernel
theorem dX9_rests_73 : decode cX9_rests 73 = .ok (.iload_n 2, 1) := by decide +kernel
theorem dX9_rests_74 : decode cX9_rests 74 = .ok (.ishl, 1) := by decide +kernel
theorem dX9_rests_75 : decode cX9_rests 75 = .ok (.goto 4, 3) := by decide +kernel
theorem dX9_rests_78 : decode cX9_rests 78 = .ok (.iconst 0, 1) := by decide +kernel
theorem dX9_rests_79 : decode cX9_rests 79 = .ok (.ior, 1) := by decide +kernel
theorem dX9_rests_80 : decode cX9_rests 80 = .ok (.istore_n 1, 1) := by decide +kernel
theorem dX9_rests_81 : decode cX9_rests 81 = .ok (.iinc 2 1, 3) := by decide +kernel
theorem dX9_rests_84 : decode cX9_rests 84 = .ok (.goto (-80), 3) := by decide +kernel
theorem dX9_rests_87 : decode cX9_rests 87 = .ok (.iload_n 1, 1) := by decide +kernel
theorem dX9_rests_88 : decode cX9_rests 88 = .ok (.ireturn, 1) := by decide +kernel
theorem dX9_thread_0 : decode cX9_thread 0 = .ok (.iload_n 1, 1) := by decide +kernel
theorem dX9_thread_1 : decode cX9_thread 1 = .ok (.iconst 0, 1) := by decide +kernel
theorem dX9_thread_2 : decode cX9_thread 2 = .ok (.iconst 1, 1) := by decide +kernel
theorem dX9_thread_3 : decode cX9_thread 3 = .ok (.invokestatic 72, 3) := by decide +kernel
theorem dX9_thread_6 : decode cX9_thread 6 = .ok (.ifCond .ne 5, 3) := by decide +kernel
theorem dX9_thread_9 : decode cX9_thread 9 = .ok (.iconst (-1), 1) := by decide +kernel
theorem dX9_thread_10 : decode cX9_thread 10 = .ok (.ireturn, 1) := by decide +kernel
theorem dX9_thread_11 : decode cX9_thread 11 = .ok (.iconst (-1), 1) := by decide +kernel
theorem dX9_thread_12 : decode cX9_thread 12 = .ok (.istore_n 2, 1) := by decide +kernel
theorem dX9_thread_13 : decode cX9_thread 13 = .ok (.aload_n 0, 1) := by decide +kernel
theorem dX9_thread_14 : decode cX9_thread 14 = .ok (.getfield 7, 3) := by decide +kernel
theorem dX9_thread_17 : decode cX9_thread 17 = .ok (.iconst 3, 1) := by decide +kernel
theorem dX9_thread_18 : decode cX9_thread 18 = .ok (.iaload, 1) := by decide +kernel
theorem dX9_thread_19 : decode cX9_thread 19 = .ok (.iconst 1, 1) := by decide +kernel
theorem dX9_thread_20 : decode cX9_thread 20 = .ok (.isub, 1) := by decide +kernel
theorem dX9_thread_21 : decode cX9_thread 21 = .ok (.istore_n 3, 1) := by decide +kernel
theorem dX9_thread_22 : decode cX9_thread 22 = .ok (.iload_n 3, 1) := by decide +kernel
theorem dX9_thread_23 : decode cX9_thread 23 = .ok (.ifCond .lt 126, 3) := by decide +kernel
theorem dX9_thread_26 : decode cX9_thread 26 = .ok (.aload_n 0, 1) := by decide +kernel
theorem dX9_thread_27 : decode cX9_thread 27 = .ok (.iload_n 3, 1) := by decide +kernel
theorem dX9_thread_28 : decode cX9_thread 28 = .ok (.invokevirtual 79, 3) := by decide +kernel
theorem dX9_thread_31 : decode cX9_thread 31 = .ok (.ifCond .eq 6, 3) := by decide +kernel
theorem dX9_thread_34 : decode cX9_thread 34 = .ok (.goto 109, 3) := by decide +kernel
theorem dX9_thread_37 : decode cX9_thread 37 = .ok (.iconst 0, 1) := by decide +kernel
theorem dX9_thread_38 : decode cX9_thread 38 = .ok (.istore 4, 2) := by decide +kernel
theorem dX9_thread_40 : decode cX9_thread 40 = .ok (.iload_n 3, 1) := by decide +kernel
theorem dX9_thread_41 : decode cX9_thread 41 = .ok (.iconst 1, 1) := by decide +kernel
theorem dX9_thread_42 : decode cX9_thread 42 = .ok (.iadd, 1) := by decide +kernel
theorem dX9_thread_43 : decode cX9_thread 43 = .ok (.istore 5, 2) := by decide +kernel
theorem dX9_thread_45 : decode cX9_thread 45 = .ok (.iload 5, 2) := by decide +kernel
theorem dX9_thread_47 : decode cX9_thread 47 = .ok (.aload_n 0, 1) := by decide +kernel
theorem dX9_thread_48 : decode cX9_thread 48 = .ok (.getfield 7, 3) := by decide +kernel
theorem dX9_thread_51 : decode cX9_thread 51 = .ok (.iconst 3, 1) := by decide +kernel
theorem dX9_thread_52 : decode cX9_thread 52 = .ok (.iaload, 1) := by decide +kernel
theorem dX9_thread_53 : decode cX9_thread 53 = .ok (.if_icmp .ge 49, 3) := by decide +kernel
theorem dX9_thread_56 : decode cX9_thread 56 = .ok (.aload_n 0, 1) := by decide +kernel
theorem dX9_thread_57 : decode cX9_thread 57 = .ok (.iload 5, 2) := by decide +kernel
theorem dX9_thread_59 : decode cX9_thread 59 = .ok (.bipush 6, 2) := by decide +kernel
theorem dX9_thread_61 : decode cX9_thread 61 = .ok (.invokevirtual 76, 3) := by decide +kernel
theorem dX9_thread_64 : decode cX9_thread 64 = .ok (.iload_n 3, 1) := by decide +kernel
theorem dX9_thread_65 : decode cX9_thread 65 = .ok (.if_icmp .ne 27, 3) := by decide +kernel
theorem dX9_thread_68 : decode cX9_thread 68 = .ok (.aload_n 0, 1) := by decide +kernel
theorem dX9_thread_69 : decode cX9_thread 69 = .ok (.iload 5, 2) := by decide +kernel
theorem dX9_thread_71 : decode cX9_thread 71 = .ok (.invokevirtual 79, 3) := by decide +kernel
theorem dX9_thread_74 : decode cX9_thread 74 = .ok (.ifCond .ne 18, 3) := by decide +kernel
theorem dX9_thread_77 : decode cX9_thread 77 = .ok (.iload 4, 2) := by decide +kernel
theorem dX9_thread_79 : decode cX9_thread 79 = .ok (.aload_n 0, 1) := by decide +kernel
theorem dX9_thread_80 : decode cX9_thread 80 = .ok (.getfield 62, 3) := by decide +kernel
theorem dX9_thread_83 : decode cX9_thread 83 = .ok (.iload 5, 2) := by decide +kernel
theorem dX9_thread_85 : decode cX9_thread 85 = .ok (.iaload, 1) := by decide +kernel
theorem dX9_thread_86 : decode cX9_thread 86 = .ok (.invokestatic 69, 3) := by decide +kernel
theorem dX9_thread_89 : decode cX9_thread 89 = .ok (.goto 5, 3) := by decide +kernel
theorem dX9_thread_92 : decode cX9_thread 92 = .ok (.iload 4, 2) := by decide +kernel
theorem dX9_thread_94 : decode cX9_thread 94 = .ok (.istore 4, 2) := by decide +kernel
theorem dX9_thread_96 : decode cX9_thread 96 = .ok (.iinc 5 1, 3) := by decide +kernel
theorem dX9_thread_99 : decode cX9_thread 99 = .ok (.goto (-54), 3) := by decide +kernel
theorem dX9_thread_102 : decode cX9_thread 102 = .ok (.aload_n 0, 1) := by decide +kernel
theorem dX9_thread_103 : decode cX9_thread 103 = .ok (.getfield 62, 3) := by decide +kernel
theorem dX9_thread_106 : decode cX9_thread 106 = .ok (.iload_n 3, 1) := by decide +kernel
theorem dX9_thread_107 : decode cX9_thread 107 = .ok (.aload_n 0, 1) := by decide +kernel
theorem dX9_thread_108 : decode cX9_thread 108 = .ok (.iload_n 3, 1) := by decide +kernel
theorem dX9_thread_109 : decode cX9_thread 109 = .ok (.iconst 4, 1) := by decide +kernel
theorem dX9_thread_110 : decode cX9_thread 110 = .ok (.invokevirtual 76, 3) := by decide +kernel
theorem dX9_thread_113 : decode cX9_thread 113 = .ok (.iload 4, 2) := by decide +kernel
theorem dX9_thread_115 : decode cX9_thread 115 = .ok (.iadd, 1) := by decide +kernel
theorem dX9_thread_116 : decode cX9_thread 116 = .ok (.iastore, 1) := by decide +kernel
theorem dX9_thread_117 : decode cX9_thread 117 = .ok (.iload_n 2, 1) := by decide +kernel
theorem dX9_thread_118 : decode cX9_thread 118 = .ok (.iconst (-1), 1) := by decide +kernel
theorem dX9_thread_119 : decode cX9_thread 119 = .ok (.if_icmp .eq 18, 3) := by decide +kernel
theorem dX9_thread_122 : decode cX9_thread 122 = .ok (.aload_n 0, 1) := by decide +kernel
theorem dX9_thread_123 : decode cX9_thread 123 = .ok (.getfield 62, 3) := by decide +kernel
theorem dX9_thread_126 : decode cX9_thread 126 = .ok (.iload_n 3, 1) := by decide +kernel
theorem dX9_thread_127 : decode cX9_thread 127 = .ok (.iaload, 1) := by decide +kernel
theorem dX9_thread_128 : decode cX9_thread 128 = .ok (.aload_n 0, 1) := by decide +kernel
theorem dX9_thread_129 : decode cX9_thread 129 = .ok (.getfield 62, 3) := by decide +kernel
theorem dX9_thread_132 : decode cX9_thread 132 = .ok (.iload_n 2, 1) := by decide +kernel
theorem dX9_thread_133 : decode cX9_thread 133 = .ok (.iaload, 1) := by decide +kernel
theorem dX9_thread_134 : decode cX9_thread 134 = .ok (.if_icmp .lt 7, 3) := by decide +kernel
theorem dX9_thread_137 : decode cX9_thread 137 = .ok (.iload_n 3, 1) := by decide +kernel
theorem dX9_thread_138 : decode cX9_thread 138 = .ok (.goto 4, 3) := by decide +kernel
theorem dX9_thread_141 : decode cX9_thread 141 = .ok (.iload_n 2, 1) := by decide +kernel
theorem dX9_thread_142 : decode cX9_thread 142 = .ok (.istore_n 2, 1) := by decide +kernel
theorem dX9_thread_143 : decode cX9_thread 143 = .ok (.iinc 3 (-1), 3) := by decide +kernel
theorem dX9_thread_146 : decode cX9_thread 146 = .ok (.goto (-124), 3) := by decide +kernel
theorem dX9_thread_149 : decode cX9_thread 149 = .ok (.iload_n 2, 1) := by decide +kernel
theorem dX9_thread_150 : decode cX9_thread 150 = .ok (.iconst (-1), 1) := by decide +kernel
theorem dX9_thread_151 : decode cX9_thread 151 = .ok (.if_icmp .eq 8, 3) := by decide +kernel
theorem dX9_thread_154 : decode cX9_thread 154 = .ok (.iload_n 1, 1) := by decide +kernel
theorem dX9_thread_155 : decode cX9_thread 155 = .ok (.iconst 1, 1) := by decide +kernel
theorem dX9_thread_156 : decode cX9_thread 156 = .ok (.if_icmp .ne 7, 3) := by decide +kernel
theorem dX9_thread_159 : decode cX9_thread 159 = .ok (.iload_n 2, 1) := by decide +kernel
theorem dX9_thread_160 : decode cX9_thread 160 = .ok (.goto 9, 3) := by decide +kernel
theorem dX9_thread_163 : decode cX9_thread 163 = .ok (.aload_n 0, 1) := by decide +kernel
theorem dX9_thread_164 : decode cX9_thread 164 = .ok (.getfield 62, 3) := by decide +kernel
theorem dX9_thread_167 : decode cX9_thread 167 = .ok (.iload_n 2, 1) := by decide +kernel
theorem dX9_thread_168 : decode cX9_thread 168 = .ok (.iaload, 1) := by decide +kernel
theorem dX9_thread_169 : decode cX9_thread 169 = .ok (.ireturn, 1) := by decide +kernel
theorem dX9_haveCrossed_0 : decode cX9_haveCrossed 0 = .ok (.aload_n 0, 1) := by decide +kernel
theorem dX9_haveCrossed_1 : decode cX9_haveCrossed 1 = .ok (.iload_n 1, 1) := by decide +kernel
theorem dX9_haveCrossed_2 : decode cX9_haveCrossed 2 = .ok (.iconst 1, 1) := by decide +kernel
theorem dX9_haveCrossed_3 : decode cX9_haveCrossed 3 = .ok (.invokevirtual 76, 3) := by decide +kernel
theorem dX9_haveCrossed_6 : decode cX9_haveCrossed 6 = .ok (.aload_n 0, 1) := by decide +kernel
theorem dX9_haveCrossed_7 : decode cX9_haveCrossed 7 = .ok (.iload_n 2, 1) := by decide +kernel
theorem dX9_haveCrossed_8 : decode cX9_haveCrossed 8 = .ok (.iconst 1, 1) := by decide +kernel
theorem dX9_haveCrossed_9 : decode cX9_haveCrossed 9 = .ok (.invokevirtual 76, 3) := by decide +kernel
theorem dX9_haveCrossed_12 : decode cX9_haveCrossed 12 = .ok (.if_icmp .gt 7, 3) := by decide +kernel
theorem dX9_haveCrossed_15 : decode cX9_haveCrossed 15 = .ok (.iload_n 1, 1) := by decide +kernel
theorem dX9_haveCrossed_16 : decode cX9_haveCrossed 16 = .ok (.goto 4, 3) := by decide +kernel
theorem dX9_haveCrossed_19 : decode cX9_haveCrossed 19 = .ok (.iload_n 2, 1) := by decide +kernel
theorem dX9_haveCrossed_20 : decode cX9_haveCrossed 20 = .ok (.istore_n 3, 1) := by decide +kernel
theorem dX9_haveCrossed_21 : decode cX9_haveCrossed 21 = .ok (.iload_n 3, 1) := by decide +kernel
theorem dX9_haveCrossed_22 : decode cX9_haveCrossed 22 = .ok (.iload_n 1, 1) := by decide +kernel
theorem dX9_haveCrossed_23 : decode cX9_haveCrossed 23 = .ok (.if_icmp .ne 7, 3) := by decide +kernel
theorem dX9_haveCrossed_26 : decode cX9_haveCrossed 26 = .ok (.iload_n 2, 1) := by decide +kernel
theorem dX9_haveCrossed_27 : decode cX9_haveCrossed 27 = .ok (.goto 4, 3) := by decide +kernel
theorem dX9_haveCrossed_30 : decode cX9_haveCrossed 30 = .ok (.iload_n 1, 1) := by decide +kernel
theorem dX9_haveCrossed_31 : decode cX9_haveCrossed 31 = .ok (.istore 4, 2) := by decide +kernel
theorem dX9_haveCrossed_33 : decode cX9_haveCrossed 33 = .ok (.aload_n 0, 1) := by decide +kernel
theorem dX9_haveCrossed_34 : decode cX9_haveCrossed 34 = .ok (.iload_n 3, 1) := by decide +kernel
theorem dX9_haveCrossed_35 : decode cX9_haveCrossed 35 = .ok (.iconst 2, 1) := by decide +kernel
theorem dX9_haveCrossed_36 : decode cX9_haveCrossed 36 = .ok (.invokevirtual 76, 3) := by decide +kernel
theorem dX9_haveCrossed_39 : decode cX9_haveCrossed 39 = .ok (.iconst (-1), 1) := by decide +kernel
theorem dX9_haveCrossed_40 : decode cX9_haveCrossed 40 = .ok (.if_icmp .eq 19, 3) := by decide +kernel
theorem dX9_haveCrossed_43 : decode cX9_haveCrossed 43 = .ok (.aload_n 0, 1) := by decide +kernel
theorem dX9_haveCrossed_44 : decode cX9_haveCrossed 44 = .ok (.iload_n 3, 1) := by decide +kernel
theorem dX9_haveCrossed_45 : decode cX9_haveCrossed 45 = .ok (.iconst 2, 1) := by decide +kernel
theorem dX9_haveCrossed_46 : decode cX9_haveCrossed 46 = .ok (.invokevirtual 76, 3) := by decide +kernel
theorem dX9_haveCrossed_49 : decode cX9_haveCrossed 49 = .ok (.aload_n 0, 1) := by decide +kernel
theorem dX9_haveCrossed_50 : decode cX9_haveCrossed 50 = .ok (.iload 4, 2) := by decide +kernel
theorem dX9_haveCrossed_52 : decode cX9_haveCrossed 52 = .ok (.iconst 1, 1) := by decide +kernel
theorem dX9_haveCrossed_53 : decode cX9_haveCrossed 53 = .ok (.invokevirtual 76, 3) := by decide +kernel
theorem dX9_haveCrossed_56 : decode cX9_haveCrossed 56 = .ok (.if_icmp .lt 7, 3) := by decide +kernel
theorem dX9_haveCrossed_59 : decode cX9_haveCrossed 59 = .ok (.iconst 1, 1) := by decide +kernel
theorem dX9_haveCrossed_60 : decode cX9_haveCrossed 60 = .ok (.goto 4, 3) := by decide +kernel
theorem dX9_haveCrossed_63 : decode cX9_haveCrossed 63 = .ok (.iconst 0, 1) := by decide +kernel
theorem dX9_haveCrossed_64 : decode cX9_haveCrossed 64 = .ok (.ireturn, 1) := by decide +kernel
theorem dX9_crossed_0 : decode cX9_crossed 0 = .ok (.iconst 0, 1) := by decide +kernel
theorem dX9_crossed_1 : decode cX9_crossed 1 = .ok (.istore_n 1, 1) := by decide +kernel
theorem dX9_crossed_2 : decode cX9_crossed 2 = .ok (.iconst 0, 1) := by decide +kernel
theorem dX9_crossed_3 : decode cX9_crossed 3 = .ok (.istore_n 2, 1) := by decide +kernel
theorem dX9_crossed_4 : decode cX9_crossed 4 = .ok (.iload_n 2, 1) := by decide +kernel
theorem dX9_crossed_5 : decode cX9_crossed 5 = .ok (.aload_n 0, 1) := by decide +kernel
theorem dX9_crossed_6 : decode cX9_crossed 6 = .ok (.getfield 7, 3) := by decide +kernel
theorem dX9_crossed_9 : decode cX9_crossed 9 = .ok (.iconst 3, 1) := by decide +kernel
theorem dX9_crossed_10 : decode cX9_crossed 10 = .ok (.iaload, 1) := by decide +kernel
theorem dX9_crossed_11 : decode cX9_crossed 11 = .ok (.if_icmp .ge 79, 3) := by decide +kernel
theorem dX9_crossed_14 : decode cX9_crossed 14 = .ok (.iconst 0, 1) := by decide +kernel
theorem dX9_crossed_15 : decode cX9_crossed 15 = .ok (.istore_n 3, 1) := by decide +kernel
theorem dX9_crossed_16 : decode cX9_crossed 16 = .ok (.iload_n 3, 1) := by decide +kernel
theorem dX9_crossed_17 : decode cX9_crossed 17 = .ok (.aload_n 0, 1) := by decide +kernel
theorem dX9_crossed_18 : decode cX9_crossed 18 = .ok (.getfield 7, 3) := by decide +kernel
theorem dX9_crossed_21 : decode cX9_crossed 21 = .ok (.iconst 3, 1) := by decide +kernel
theorem dX9_crossed_22 : decode cX9_crossed 22 = .ok (.iaload, 1) := by decide +kernel
theorem dX9_crossed_23 : decode cX9_crossed 23 = .ok (.if_icmp .ge 61, 3) := by decide +kernel
theorem dX9_crossed_26 : decode cX9_crossed 26 = .ok (.iload_n 1, 1) := by decide +kernel
theorem dX9_crossed_27 : decode cX9_crossed 27 = .ok (.aload_n 0, 1) := by decide +kernel
theorem dX9_crossed_28 : decode cX9_crossed 28 = .ok (.iload_n 2, 1) := by decide +kernel
theorem dX9_crossed_29 : decode cX9_crossed 29 = .ok (.iconst 0, 1) := by decide +kernel
theorem dX9_crossed_30 : decode cX9_crossed 30 = .ok (.invokevirtual 76, 3) := by decide +kernel
theorem dX9_crossed_33 : decode cX9_crossed 33 = .ok (.ifCond .ne 42, 3) := by decide +kernel
theorem dX9_crossed_36 : decode cX9_crossed 36 = .ok (.aload_n 0, 1) := by decide +kernel
theorem dX9_crossed_37 : decode cX9_crossed 37 = .ok (.iload_n 3, 1) := by decide +kernel
theorem dX9_crossed_38 : decode cX9_crossed 38 = .ok (.iconst 0, 1) := by decide +kernel
theorem dX9_crossed_39 : decode cX9_crossed 39 = .ok (.invokevirtual 76, 3) := by decide +kernel
theorem dX9_crossed_42 : decode cX9_crossed 42 = .ok (.iconst 1, 1) := by decide +kernel
theorem dX9_crossed_43 : decode cX9_crossed 43 = .ok (.if_icmp .ne 32, 3) := by decide +kernel
theorem dX9_crossed_46 : decode cX9_crossed 46 = .ok (.aload_n 0, 1) := by decide +kernel
theorem dX9_crossed_47 : decode cX9_crossed 47 = .ok (.iload_n 2, 1) := by decide +kernel
theorem dX9_crossed_48 : decode cX9_crossed 48 = .ok (.invokevirtual 79, 3) := by decide +kernel
theorem dX9_crossed_51 : decode cX9_crossed 51 = .ok (.ifCond .ne 24, 3) := by decide +kernel
theorem dX9_crossed_54 : decode cX9_crossed 54 = .ok (.aload_n 0, 1) := by decide +kernel
theorem dX9_crossed_55 : decode cX9_crossed 55 = .ok (.iload_n 3, 1) := by decide +kernel
theorem dX9_crossed_56 : decode cX9_crossed 56 = .ok (.invokevirtual 79, 3) := by decide +kernel
theorem dX9_crossed_59 : decode cX9_crossed 59 = .ok (.ifCond .ne 16, 3) := by decide +kernel
theorem dX9_crossed_62 : decode cX9_crossed 62 = .ok (.aload_n 0, 1) := by decide +kernel
theorem dX9_crossed_63 : decode cX9_crossed 63 = .ok (.iload_n 2, 1) := by decide +kernel
theorem dX9_crossed_64 : decode cX9_crossed 64 = .ok (.iload_n 3, 1) := by decide +kernel
theorem dX9_crossed_65 : decode cX9_crossed 65 = .ok (.invokevirtual 460, 3) := by decide +kernel
theorem dX9_crossed_68 : decode cX9_crossed 68 = .ok (.ifCond .eq 7, 3) := by decide +kernel
theorem dX9_crossed_71 : decode cX9_crossed 71 = .ok (.iconst 1, 1) := by decide +kernel
theorem dX9_crossed_72 : decode cX9_crossed 72 = .ok (.goto 4, 3) := by decide +kernel
theorem dX9_crossed_75 : decode cX9_crossed 75 = .ok (.iconst 0, 1) := by decide +kernel
theorem dX9_crossed_76 : decode cX9_crossed 76 = .ok (.iadd, 1) := by decide +kernel
theorem dX9_crossed_77 : decode cX9_crossed 77 = .ok (.istore_n 1, 1) := by decide +kernel
theorem dX9_crossed_78 : decode cX9_crossed 78 = .ok (.iinc 3 1, 3) := by decide +kernel
theorem dX9_crossed_81 : decode cX9_crossed 81 = .ok (.goto (-65), 3) := by decide +kernel
theorem dX9_crossed_84 : decode cX9_crossed 84 = .ok (.iinc 2 1, 3) := by decide +kernel
theorem dX9_crossed_87 : decode cX9_crossed 87 = .ok (.goto (-83), 3) := by decide +kernel
theorem dX9_crossed_90 : decode cX9_crossed 90 = .ok (.iload_n 1, 1) := by decide +kernel
theorem dX9_crossed_91 : decode cX9_crossed 91 = .ok (.ireturn, 1) := by decide +kernel
theorem dX9_awake_0 : decode cX9_awake 0 = .ok (.iload_n 1, 1) := by decide +kernel
theorem dX9_awake_1 : decode cX9_awake 1 = .ok (.iconst 1, 1) := by decide +kernel
theorem dX9_awake_2 : decode cX9_awake 2 = .ok (.bipush 48, 2) := by decide +kernel
theorem dX9_awake_4 : decode cX9_awake 4 = .ok (.invokestatic 72, 3) := by decide +kernel
theorem dX9_awake_7 : decode cX9_awake 7 = .ok (.ifCond .eq 12, 3) := by decide +kernel
theorem dX9_awake_10 : decode cX9_awake 10 = .ok (.iload_n 2, 1) := by decide +kernel
theorem dX9_awake_11 : decode cX9_awake 11 = .ok (.iconst 0, 1) := by decide +kernel
theorem dX9_awake_12 : decode cX9_awake 12 = .ok (.iconst 2, 1) := by decide +kernel
theorem dX9_awake_13 : decode cX9_awake 13 = .ok (.invokestatic 72, 3) := by decide +kernel
theorem dX9_awake_16 : decode cX9_awake 16 = .ok (.ifCond .ne 5, 3) := by decide +kernel
theorem dX9_awake_19 : decode cX9_awake 19 = .ok (.iconst (-1), 1) := by decide +kernel
theorem dX9_awake_20 : decode cX9_awake 20 = .ok (.ireturn, 1) := by decide +kernel
theorem dX9_awake_21 : decode cX9_awake 21 = .ok (.iconst 0, 1) := by decide +kernel
theorem dX9_awake_22 : decode cX9_awake 22 = .ok (.istore_n 3, 1) := by decide +kernel
theorem dX9_awake_23 : decode cX9_awake 23 = .ok (.iconst (-1), 1) := by decide +kernel
theorem dX9_awake_24 : decode cX9_awake 24 = .ok (.istore 4, 2) := by decide +kernel
theorem dX9_awake_26 : decode cX9_awake 26 = .ok (.iconst 0, 1) := by decide +kernel
theorem dX9_awake_27 : decode cX9_awake 27 = .ok (.istore 5, 2) := by decide +kernel
theorem dX9_awake_29 : decode cX9_awake 29 = .ok (.iconst 0, 1) := by decide +kernel
theorem dX9_awake_30 : decode cX9_awake 30 = .ok (.istore 6, 2) := by decide +kernel
theorem dX9_awake_32 : decode cX9_awake 32 = .ok (.iconst 0, 1) := by decide +kernel
theorem dX9_awake_33 : decode cX9_awake 33 = .ok (.istore 7, 2) := by decide +kernel
theorem dX9_awake_35 : decode cX9_awake 35 = .ok (.iload 7, 2) := by decide +kernel
theorem dX9_awake_37 : decode cX9_awake 37 = .ok (.iload_n 1, 1) := by decide +kernel
theorem dX9_awake_38 : decode cX9_awake 38 = .ok (.if_icmp .ge 105, 3) := by decide +kernel
theorem dX9_awake_41 : decode cX9_awake 41 = .ok (.aload_n 0, 1) := by decide +kernel
theorem dX9_awake_42 : decode cX9_awake 42 = .ok (.invokevirtual 317, 3) := by decide +kernel
theorem dX9_awake_45 : decode cX9_awake 45 = .ok (.iload 7, 2) := by decide +kernel
theorem dX9_awake_47 : decode cX9_awake 47 = .ok (.iadd, 1) := by decide +kernel
theorem dX9_awake_48 : decode cX9_awake 48 = .ok (.bipush 24, 2) := by decide +kernel
theorem dX9_awake_50 : decode cX9_awake 50 = .ok (.irem, 1) := by decide +kernel
theorem dX9_awake_51 : decode cX9_awake 51 = .ok (.istore 8, 2) := by decide +kernel
theorem dX9_awake_53 : decode cX9_awake 53 = .ok (.aload_n 0, 1) := by decide +kernel
theorem dX9_awake_54 : decode cX9_awake 54 = .ok (.iconst 0, 1) := by decide +kernel
theorem dX9_awake_55 : decode cX9_awake 55 = .ok (.iload 8, 2) := by decide +kernel
theorem dX9_awake_57 : decode cX9_awake 57 = .ok (.invokevirtual 391, 3) := by decide +kernel
theorem dX9_awake_60 : decode cX9_awake 60 = .ok (.ifCond .eq 17, 3) := by decide +kernel
theorem dX9_awake_63 : decode cX9_awake 63 = .ok (.aload_n 0, 1) := by decide +kernel
theorem dX9_awake_64 : decode cX9_awake 64 = .ok (.iconst 1, 1) := by decide +kernel
theorem dX9_awake_65 : decode cX9_awake 65 = .ok (.iload 8, 2) := by decide +kernel
theorem dX9_awake_67 : decode cX9_awake 67 = .ok (.invokevirtual 391, 3) := by decide +kernel
theorem dX9_awake_70 : decode cX9_awake 70 = .ok (.ifCond .eq 7, 3) := by decide +kernel
theorem dX9_awake_73 : decode cX9_awake 73 = .ok (.iconst 1, 1) := by decide +kernel
theorem dX9_awake_74 : decode cX9_awake 74 = .ok (.goto 4, 3) := by decide +kernel
theorem dX9_awake_77 : decode cX9_awake 77 = .ok (.iconst 0, 1) := by decide +kernel
theorem dX9_awake_78 : decode cX9_awake 78 = .ok (.istore 9, 2) := by decide +kernel
theorem dX9_awake_80 : decode cX9_awake 80 = .ok (.iload 9, 2) := by decide +kernel
theorem dX9_awake_82 : decode cX9_awake 82 = .ok (.ifCond .eq 10, 3) := by decide +kernel
theorem dX9_awake_85 : decode cX9_awake 85 = .ok (.iload 5, 2) := by decide +kernel
theorem dX9_awake_87 : decode cX9_awake 87 = .ok (.iconst 1, 1) := by decide +kernel
theorem dX9_awake_88 : decode cX9_awake 88 = .ok (.iadd, 1) := by decide +kernel
theorem dX9_awake_89 : decode cX9_awake 89 = .ok (.goto 4, 3) := by decide +kernel
theorem dX9_awake_92 : decode cX9_awake 92 = .ok (.iconst 0, 1) := by decide +kernel
theorem dX9_awake_93 : decode cX9_awake 93 = .ok (.istore 5, 2) := by decide +kernel
theorem dX9_awake_95 : decode cX9_awake 95 = .ok (.iload 6, 2) := by decide +kernel
theorem dX9_awake_97 : decode cX9_awake 97 = .ok (.iload 5, 2) := by decide +kernel
theorem dX9_awake_99 : decode cX9_awake 99 = .ok (.invokestatic 69, 3) := by decide +kernel
theorem dX9_awake_102 : decode cX9_awake 102 = .ok (.istore 6, 2) := by decide +kernel
theorem dX9_awake_104 : decode cX9_awake 104 = .ok (.iload 9, 2) := by decide +kernel
theorem dX9_awake_106 : decode cX9_awake 106 = .ok (.ifCond .eq 14, 3) := by decide +kernel
theorem dX9_awake_109 : decode cX9_awake 109 = .ok (.iload 4, 2) := by decide +kernel
theorem dX9_awake_111 : decode cX9_awake 111 = .ok (.iconst (-1), 1) := by decide +kernel
theorem dX9_awake_112 : decode cX9_awake 112 = .ok (.if_icmp .ne 8, 3) := by decide +kernel
theorem dX9_awake_115 : decode cX9_awake 115 = .ok (.iload 7, 2) := by decide +kernel
theorem dX9_awake_117 : decode cX9_awake 117 = .ok (.goto 5, 3) := by decide +kernel
theorem dX9_awake_120 : decode cX9_awake 120 = .ok (.iload 4, 2) := by decide +kernel
theorem dX9_awake_122 : decode cX9_awake 122 = .ok (.istore 4, 2) := by decide +kernel
theorem dX9_awake_124 : decode cX9_awake 124 = .ok (.iload_n 3, 1) := by decide +kernel
theorem dX9_awake_125 : decode cX9_awake 125 = .ok (.iload 9, 2) := by decide +kernel
theorem dX9_awake_127 : decode cX9_awake 127 = .ok (.ifCond .eq 7, 3) := by decide +kernel
theorem dX9_awake_130 : decode cX9_awake 130 = .ok (.iconst 1, 1) := by decide +kernel
theorem dX9_awake_131 : decode cX9_awake 131 = .ok (.goto 4, 3) := by decide +kernel
theorem dX9_awake_134 : decode cX9_awake 134 = .ok (.iconst 0, 1) := by decide +kernel
theorem dX9_awake_135 : decode cX9_awake 135 = .ok (.iadd, 1) := by decide +kernel
theorem dX9_awake_136 : decode cX9_awake 136 = .ok (.istore_n 3, 1) := by decide +kernel
theorem dX9_awake_137 : decode cX9_awake 137 = .ok (.iinc 7 1, 3) := by decide +kernel
theorem dX9_awake_140 : decode cX9_awake 140 = .ok (.goto (-105), 3) := by decide +kernel
theorem dX9_awake_143 : decode cX9_awake 143 = .ok (.iload_n 2, 1) := by decide +kernel
theorem dX9_awake_144 : decode cX9_awake 144 = .ok (.ifCond .ne 7, 3) := by decide +kernel
theorem dX9_awake_147 : decode cX9_awake 147 = .ok (.iload_n 3, 1) := by decide +kernel
theorem dX9_awake_148 : decode cX9_awake 148 = .ok (.goto 15, 3) := by decide +kernel
theorem dX9_awake_151 : decode cX9_awake 151 = .ok (.iload_n 2, 1) := by decide +kernel
theorem dX9_awake_152 : decode cX9_awake 152 = .ok (.iconst 1, 1) := by decide +kernel
theorem dX9_awake_153 : decode cX9_awake 153 = .ok (.if_icmp .ne 8, 3) := by decide +kernel
theorem dX9_awake_156 : decode cX9_awake 156 = .ok (.iload 4, 2) := by decide +kernel
theorem dX9_awake_158 : decode cX9_awake 158 = .ok (.goto 5, 3) := by decide +kernel
theorem dX9_awake_161 : decode cX9_awake 161 = .ok (.iload 6, 2) := by decide +kernel
theorem dX9_awake_163 : decode cX9_awake 163 = .ok (.ireturn, 1) := by decide +kernel
theorem dX9_image_0 : decode cX9_image 0 = .ok (.iload_n 1, 1) := by decide +kernel
theorem dX9_image_1 : decode cX9_image 1 = .ok (.ifCond .ne 12, 3) := by decide +kernel
theorem dX9_image_4 : decode cX9_image 4 = .ok (.aload_n 0, 1) := by decide +kernel
theorem dX9_image_5 : decode cX9_image 5 = .ok (.getfield 463, 3) := by decide +kernel
theorem dX9_image_8 : decode cX9_image 8 = .ok (.ifCond .ne 5, 3) := by decide +kernel
theorem dX9_image_11 : decode cX9_image 11 = .ok (.iconst 0, 1) := by decide +kernel
theorem dX9_image_12 : decode cX9_image 12 = .ok (.ireturn, 1) := by decide +kernel
theorem dX9_image_13 : decode cX9_image 13 = .ok (.iconst 0, 1) := by decide +kernel
theorem dX9_image_14 : decode cX9_image 14 = .ok (.istore_n 2, 1) := by decide +kernel
theorem dX9_image_15 : decode cX9_image 15 = .ok (.iload_n 2, 1) := by decide +kernel
theorem dX9_image_16 : decode cX9_image 16 = .ok (.sipush 2217, 3) := by decide +kernel
theorem dX9_image_19 : decode cX9_image 19 = .ok (.if_icmp .ge 40, 3) := by decide +kernel
theorem dX9_image_22 : decode cX9_image 22 = .ok (.iload_n 1, 1) := by decide +kernel
theorem dX9_image_23 : decode cX9_image 23 = .ok (.ifCond .eq 18, 3) := by decide +kernel
theorem dX9_image_26 : decode cX9_image 26 = .ok (.aload_n 0, 1) := by decide +kernel
theorem dX9_image_27 : decode cX9_image 27 = .ok (.getfield 13, 3) := by decide +kernel
theorem dX9_image_30 : decode cX9_image 30 = .ok (.iload_n 2, 1) := by decide +kernel
theorem dX9_image_31 : decode cX9_image 31 = .ok (.aload_n 0, 1) := by decide +kernel
theorem dX9_image_32 : decode cX9_image 32 = .ok (.getfield 7, 3) := by decide +kernel
theorem dX9_image_35 : decode cX9_image 35 = .ok (.iload_n 2, 1) := by decide +kernel
theorem dX9_image_36 : decode cX9_image 36 = .ok (.iaload, 1) := by decide +kernel
theorem dX9_image_37 : decode cX9_image 37 = .ok (.iastore, 1) := by decide +kernel
theorem dX9_image_38 : decode cX9_image 38 = .ok (.goto 15, 3) := by decide +kernel
theorem dX9_image_41 : decode cX9_image 41 = .ok (.aload_n 0, 1) := by decide +kernel
theorem dX9_image_42 : decode cX9_image 42 = .ok (.getfield 7, 3) := by decide +kernel
theorem dX9_image_45 : decode cX9_image 45 = .ok (.iload_n 2, 1) := by decide +kernel
theorem dX9_image_46 : decode cX9_image 46 = .ok (.aload_n 0, 1) := by decide +kernel
theorem dX9_image_47 : decode cX9_image 47 = .ok (.getfield 13, 3) := by decide +kernel
theorem dX9_image_50 : decode cX9_image 50 = .ok (.iload_n 2, 1) := by decide +kernel
theorem dX9_image_51 : decode cX9_image 51 = .ok (.iaload, 1) := by decide +kernel
theorem dX9_image_52 : decode cX9_image 52 = .ok (.iastore, 1) := by decide +kernel
theorem dX9_image_53 : decode cX9_image 53 = .ok (.iinc 2 1, 3) := by decide +kernel
theorem dX9_image_56 : decode cX9_image 56 = .ok (.goto (-41), 3) := by decide +kernel
theorem dX9_image_59 : decode cX9_image 59 = .ok (.iload_n 1, 1) := by decide +kernel
theorem dX9_image_60 : decode cX9_image 60 = .ok (.ifCond .ne 7, 3) := by decide +kernel
theorem dX9_image_63 : decode cX9_image 63 = .ok (.aload_n 0, 1) := by decide +kernel
theorem dX9_image_64 : decode cX9_image 64 = .ok (.invokevirtual 86, 3) := by decide +kernel
theorem dX9_image_67 : decode cX9_image 67 = .ok (.aload_n 0, 1) := by decide +kernel
theorem dX9_image_68 : decode cX9_image 68 = .ok (.iconst 1, 1) := by decide +kernel
theorem dX9_image_69 : decode cX9_image 69 = .ok (.putfield 463, 3) := by decide +kernel
theorem dX9_image_72 : decode cX9_image 72 = .ok (.iconst 1, 1) := by decide +kernel
theorem dX9_image_73 : decode cX9_image 73 = .ok (.ireturn, 1) := by decide +kernel
theorem dX9_look_0 : decode cX9_look 0 = .ok (.iload_n 1, 1) := by decide +kernel
theorem dX9_look_1 : decode cX9_look 1 = .ok (.tableswitch 142 0 10 #[59, 66, 73, 78, 85, 92, 101, 110, 119, 128, 137], 59) := by decide +kernel
theorem dX9_look_60 : decode cX9_look 60 = .ok (.aload_n 0, 1) := by decide +kernel
theorem dX9_look_61 : decode cX9_look 61 = .ok (.getfield 7, 3) := by decide +kernel
theorem dX9_look_64 : decode cX9_look 64 = .ok (.iconst 0, 1) := by decide +kernel
theorem dX9_look_65 : decode cX9_look 65 = .ok (.iaload, 1) := by decide +kernel
theorem dX9_look_66 : decode cX9_look 66 = .ok (.ireturn, 1) := by decide +kernel
theorem dX9_look_67 : decode cX9_look 67 = .ok (.aload_n 0, 1) := by decide +kernel
theorem dX9_look_68 : decode cX9_look 68 = .ok (.getfield 7, 3) := by decide +kernel
theorem dX9_look_71 : decode cX9_look 71 = .ok (.iconst 3, 1) := by decide +kernel
theorem dX9_look_72 : decode cX9_look 72 = .ok (.iaload, 1) := by decide +kernel
theorem dX9_look_73 : decode cX9_look 73 = .ok (.ireturn, 1) := by decide +kernel
theorem dX9_look_74 : decode cX9_look 74 = .ok (.aload_n 0, 1) := by decide +kernel
theorem dX9_look_75 : decode cX9_look 75 = .ok (.invokevirtual 317, 3) := by decide +kernel
theorem dX9_look_78 : decode cX9_look 78 = .ok (.ireturn, 1) := by decide +kernel
theorem dX9_look_79 : decode cX9_look 79 = .ok (.aload_n 0, 1) := by decide +kernel
theorem dX9_look_80 : decode cX9_look 80 = .ok (.getfield 7, 3) := by decide +kernel
theorem dX9_look_83 : decode cX9_look 83 = .ok (.iconst 2, 1) := by decide +kernel
theorem dX9_look_84 : decode cX9_look 84 = .ok (.iaload, 1) := by decide +kernel
theorem dX9_look_85 : decode cX9_look 85 = .ok (.ireturn, 1) := by decide +kernel
theorem dX9_look_86 : decode cX9_look 86 = .ok (.aload_n 0, 1) := by decide +kernel
theorem dX9_look_87 : decode cX9_look 87 = .ok (.getfield 7, 3) := by decide +kernel
theorem dX9_look_90 : decode cX9_look 90 = .ok (.iconst 1, 1) := by decide +kernel
theorem dX9_look_91 : decode cX9_look 91 = .ok (.iaload, 1) := by decide +kernel
theorem dX9_look_92 : decode cX9_look 92 = .ok (.ireturn, 1) := by decide +kernel
theorem dX9_look_93 : decode cX9_look 93 = .ok (.aload_n 0, 1) := by decide +kernel
theorem dX9_look_94 : decode cX9_look 94 = .ok (.getfield 7, 3) := by decide +kernel
theorem dX9_look_97 : decode cX9_look 97 = .ok (.sipush 550, 3) := by decide +kernel
theorem dX9_look_100 : decode cX9_look 100 = .ok (.iaload, 1) := by decide +kernel
theorem dX9_look_101 : decode cX9_look 101 = .ok (.ireturn, 1) := by decide +kernel
theorem dX9_look_102 : decode cX9_look 102 = .ok (.aload_n 0, 1) := by decide +kernel
theorem dX9_look_103 : decode cX9_look 103 = .ok (.getfield 7, 3) := by decide +kernel
theorem dX9_look_106 : decode cX9_look 106 = .ok (.sipush 551, 3) := by decide +kernel
theorem dX9_look_109 : decode cX9_look 109 = .ok (.iaload, 1) := by decide +kernel
theorem dX9_look_110 : decode cX9_look 110 = .ok (.ireturn, 1) := by decide +kernel
theorem dX9_look_111 : decode cX9_look 111 = .ok (.aload_n 0, 1) := by decide +kernel
theorem dX9_look_112 : decode cX9_look 112 = .ok (.getfield 7, 3) := by decide +kernel
theorem dX9_look_115 : decode cX9_look 115 = .ok (.sipush 552, 3) := by decide +kernel
theorem dX9_look_118 : decode cX9_look 118 = .ok (.iaload, 1) := by decide +kernel
theorem dX9_look_119 : decode cX9_look 119 = .ok (.ireturn, 1) := by decide +kernel
theorem dX9_look_120 : decode cX9_look 120 = .ok (.aload_n 0, 1) := by decide +kernel
theorem dX9_look_121 : decode cX9_look 121 = .ok (.getfield 7, 3) := by decide +kernel
theorem dX9_look_124 : decode cX9_look 124 = .ok (.sipush 553, 3) := by decide +kernel
theorem dX9_look_127 : decode cX9_look 127 = .ok (.iaload, 1) := by decide +kernel
theorem dX9_look_128 : decode cX9_look 128 = .ok (.ireturn, 1) := by decide +kernel
theorem dX9_look_129 : decode cX9_look 129 = .ok (.aload_n 0, 1) := by decide +kernel
theorem dX9_look_130 : decode cX9_look 130 = .ok (.getfield 7, 3) := by decide +kernel
theorem dX9_look_133 : decode cX9_look 133 = .ok (.sipush 554, 3) := by decide +kernel
theorem dX9_look_136 : decode cX9_look 136 = .ok (.iaload, 1) := by decide +kernel
theorem dX9_look_137 : decode cX9_look 137 = .ok (.ireturn, 1) := by decide +kernel
theorem dX9_look_138 : decode cX9_look 138 = .ok (.aload_n 0, 1) := by decide +kernel
theorem dX9_look_139 : decode cX9_look 139 = .ok (.getfield 83, 3) := by decide +kernel
theorem dX9_look_142 : decode cX9_look 142 = .ok (.ireturn, 1) := by decide +kernel
theorem dX9_look_143 : decode cX9_look 143 = .ok (.iconst (-1), 1) := by decide +kernel
theorem dX9_look_144 : decode cX9_look 144 = .ok (.ireturn, 1) := by decide +kernel
