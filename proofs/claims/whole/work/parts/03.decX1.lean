theorem dX4_takeDoing_0 : decode cX4_takeDoing 0 = .ok (.aload_n 0, 1) := by decide +kernel
theorem dX4_takeDoing_1 : decode cX4_takeDoing 1 = .ok (.getfield 28, 3) := by decide +kernel
theorem dX4_takeDoing_4 : decode cX4_takeDoing 4 = .ok (.aload_n 0, 1) := by decide +kernel
theorem dX4_takeDoing_5 : decode cX4_takeDoing 5 = .ok (.getfield 50, 3) := by decide +kernel
theorem dX4_takeDoing_8 : decode cX4_takeDoing 8 = .ok (.iaload, 1) := by decide +kernel
theorem dX4_takeDoing_9 : decode cX4_takeDoing 9 = .ok (.iconst 1, 1) := by decide +kernel
theorem dX4_takeDoing_10 : decode cX4_takeDoing 10 = .ok (.if_icmp .ne 30, 3) := by decide +kernel
theorem dX4_takeDoing_13 : decode cX4_takeDoing 13 = .ok (.aload_n 0, 1) := by decide +kernel
theorem dX4_takeDoing_14 : decode cX4_takeDoing 14 = .ok (.getfield 31, 3) := by decide +kernel
theorem dX4_takeDoing_17 : decode cX4_takeDoing 17 = .ok (.aload_n 0, 1) := by decide +kernel
theorem dX4_takeDoing_18 : decode cX4_takeDoing 18 = .ok (.getfield 50, 3) := by decide +kernel
theorem dX4_takeDoing_21 : decode cX4_takeDoing 21 = .ok (.iaload, 1) := by decide +kernel
theorem dX4_takeDoing_22 : decode cX4_takeDoing 22 = .ok (.iconst 3, 1) := by decide +kernel
theorem dX4_takeDoing_23 : decode cX4_takeDoing 23 = .ok (.if_icmp .lt 17, 3) := by decide +kernel
theorem dX4_takeDoing_26 : decode cX4_takeDoing 26 = .ok (.aload_n 0, 1) := by decide +kernel
theorem dX4_takeDoing_27 : decode cX4_takeDoing 27 = .ok (.getfield 31, 3) := by decide +kernel
theorem dX4_takeDoing_30 : decode cX4_takeDoing 30 = .ok (.aload_n 0, 1) := by decide +kernel
theorem dX4_takeDoing_31 : decode cX4_takeDoing 31 = .ok (.getfield 50, 3) := by decide +kernel
theorem dX4_takeDoing_34 : decode cX4_takeDoing 34 = .ok (.iaload, 1) := by decide +kernel
theorem dX4_takeDoing_35 : decode cX4_takeDoing 35 = .ok (.bipush 6, 2) := by decide +kernel
theorem dX4_takeDoing_37 : decode cX4_takeDoing 37 = .ok (.if_icmp .le 9, 3) := by decide +kernel
theorem dX4_takeDoing_40 : decode cX4_takeDoing 40 = .ok (.aload_n 0, 1) := by decide +kernel
theorem dX4_takeDoing_41 : decode cX4_takeDoing 41 = .ok (.iconst 1, 1) := by decide +kernel
theorem dX4_takeDoing_42 : decode cX4_takeDoing 42 = .ok (.invokevirtual 100, 3) := by decide +kernel
theorem dX4_takeDoing_45 : decode cX4_takeDoing 45 = .ok (.ireturn, 1) := by decide +kernel
theorem dX4_takeDoing_46 : decode cX4_takeDoing 46 = .ok (.aload_n 0, 1) := by decide +kernel
theorem dX4_takeDoing_47 : decode cX4_takeDoing 47 = .ok (.getfield 16, 3) := by decide +kernel
theorem dX4_takeDoing_50 : decode cX4_takeDoing 50 = .ok (.aload_n 0, 1) := by decide +kernel
theorem dX4_takeDoing_51 : decode cX4_takeDoing 51 = .ok (.getfield 31, 3) := by decide +kernel
theorem dX4_takeDoing_54 : decode cX4_takeDoing 54 = .ok (.aload_n 0, 1) := by decide +kernel
theorem dX4_takeDoing_55 : decode cX4_takeDoing 55 = .ok (.getfield 50, 3) := by decide +kernel
theorem dX4_takeDoing_58 : decode cX4_takeDoing 58 = .ok (.iaload, 1) := by decide +kernel
theorem dX4_takeDoing_59 : decode cX4_takeDoing 59 = .ok (.iconst 3, 1) := by decide +kernel
theorem dX4_takeDoing_60 : decode cX4_takeDoing 60 = .ok (.isub, 1) := by decide +kernel
theorem dX4_takeDoing_61 : decode cX4_takeDoing 61 = .ok (.invokevirtual 122, 3) := by decide +kernel
theorem dX4_takeDoing_64 : decode cX4_takeDoing 64 = .ok (.aload_n 0, 1) := by decide +kernel
theorem dX4_takeDoing_65 : decode cX4_takeDoing 65 = .ok (.invokevirtual 125, 3) := by decide +kernel
theorem dX4_takeDoing_68 : decode cX4_takeDoing 68 = .ok (.iconst 1, 1) := by decide +kernel
theorem dX4_takeDoing_69 : decode cX4_takeDoing 69 = .ok (.ireturn, 1) := by decide +kernel
theorem dX4_parseSaying_0 : decode cX4_parseSaying 0 = .ok (.aload_n 0, 1) := by decide +kernel
theorem dX4_parseSaying_1 : decode cX4_parseSaying 1 = .ok (.invokevirtual 125, 3) := by decide +kernel
theorem dX4_parseSaying_4 : decode cX4_parseSaying 4 = .ok (.aload_n 0, 1) := by decide +kernel
theorem dX4_parseSaying_5 : decode cX4_parseSaying 5 = .ok (.iconst 0, 1) := by decide +kernel
theorem dX4_parseSaying_6 : decode cX4_parseSaying 6 = .ok (.sipush 9999, 3) := by decide +kernel
theorem dX4_parseSaying_9 : decode cX4_parseSaying 9 = .ok (.invokevirtual 140, 3) := by decide +kernel
theorem dX4_parseSaying_12 : decode cX4_parseSaying 12 = .ok (.ifCond .eq 20, 3) := by decide +kernel
theorem dX4_parseSaying_15 : decode cX4_parseSaying 15 = .ok (.aload_n 0, 1) := by decide +kernel
theorem dX4_parseSaying_16 : decode cX4_parseSaying 16 = .ok (.iconst 1, 1) := by decide +kernel
theorem dX4_parseSaying_17 : decode cX4_parseSaying 17 = .ok (.invokevirtual 144, 3) := by decide +kernel
theorem dX4_parseSaying_20 : decode cX4_parseSaying 20 = .ok (.ifCond .eq 12, 3) := by decide +kernel
theorem dX4_parseSaying_23 : decode cX4_parseSaying 23 = .ok (.aload_n 0, 1) := by decide +kernel
theorem dX4_parseSaying_24 : decode cX4_parseSaying 24 = .ok (.iconst 0, 1) := by decide +kernel
theorem dX4_parseSaying_25 : decode cX4_parseSaying 25 = .ok (.iconst 1, 1) := by decide +kernel
theorem dX4_parseSaying_26 : decode cX4_parseSaying 26 = .ok (.invokevirtual 140, 3) := by decide +kernel
theorem dX4_parseSaying_29 : decode cX4_parseSaying 29 = .ok (.ifCond .ne 5, 3) := by decide +kernel
theorem dX4_parseSaying_32 : decode cX4_parseSaying 32 = .ok (.iconst 0, 1) := by decide +kernel
theorem dX4_parseSaying_33 : decode cX4_parseSaying 33 = .ok (.ireturn, 1) := by decide +kernel
theorem dX4_parseSaying_34 : decode cX4_parseSaying 34 = .ok (.aload_n 0, 1) := by decide +kernel
theorem dX4_parseSaying_35 : decode cX4_parseSaying 35 = .ok (.iconst 5, 1) := by decide +kernel
theorem dX4_parseSaying_36 : decode cX4_parseSaying 36 = .ok (.invokevirtual 134, 3) := by decide +kernel
theorem dX4_parseSaying_39 : decode cX4_parseSaying 39 = .ok (.ifCond .eq 41, 3) := by decide +kernel
theorem dX4_parseSaying_42 : decode cX4_parseSaying 42 = .ok (.aload_n 0, 1) := by decide +kernel
theorem dX4_parseSaying_43 : decode cX4_parseSaying 43 = .ok (.invokevirtual 125, 3) := by decide +kernel
theorem dX4_parseSaying_46 : decode cX4_parseSaying 46 = .ok (.aload_n 0, 1) := by decide +kernel
theorem dX4_parseSaying_47 : decode cX4_parseSaying 47 = .ok (.getfield 16, 3) := by decide +kernel
theorem dX4_parseSaying_50 : decode cX4_parseSaying 50 = .ok (.iconst 1, 1) := by decide +kernel
theorem dX4_parseSaying_51 : decode cX4_parseSaying 51 = .ok (.invokevirtual 122, 3) := by decide +kernel
theorem dX4_parseSaying_54 : decode cX4_parseSaying 54 = .ok (.aload_n 0, 1) := by decide +kernel
theorem dX4_parseSaying_55 : decode cX4_parseSaying 55 = .ok (.getfield 16, 3) := by decide +kernel
theorem dX4_parseSaying_58 : decode cX4_parseSaying 58 = .ok (.iconst 0, 1) := by decide +kernel
theorem dX4_parseSaying_59 : decode cX4_parseSaying 59 = .ok (.invokevirtual 122, 3) := by decide +kernel
theorem dX4_parseSaying_62 : decode cX4_parseSaying 62 = .ok (.aload_n 0, 1) := by decide +kernel
theorem dX4_parseSaying_63 : decode cX4_parseSaying 63 = .ok (.getfield 16, 3) := by decide +kernel
theorem dX4_parseSaying_66 : decode cX4_parseSaying 66 = .ok (.iconst 0, 1) := by decide +kernel
theorem dX4_parseSaying_67 : decode cX4_parseSaying 67 = .ok (.invokevirtual 122, 3) := by decide +kernel
theorem dX4_parseSaying_70 : decode cX4_parseSaying 70 = .ok (.aload_n 0, 1) := by decide +kernel
theorem dX4_parseSaying_71 : decode cX4_parseSaying 71 = .ok (.getfield 16, 3) := by decide +kernel
theorem dX4_parseSaying_74 : decode cX4_parseSaying 74 = .ok (.iconst 0, 1) := by decide +kernel
theorem dX4_parseSaying_75 : decode cX4_parseSaying 75 = .ok (.invokevirtual 122, 3) := by decide +kernel
theorem dX4_parseSaying_78 : decode cX4_parseSaying 78 = .ok (.iconst 1, 1) := by decide +kernel
theorem dX4_parseSaying_79 : decode cX4_parseSaying 79 = .ok (.ireturn, 1) := by decide +kernel
theorem dX4_parseSaying_80 : decode cX4_parseSaying 80 = .ok (.aload_n 0, 1) := by decide +kernel
theorem dX4_parseSaying_81 : decode cX4_parseSaying 81 = .ok (.getfield 16, 3) := by decide +kernel
theorem dX4_parseSaying_84 : decode cX4_parseSaying 84 = .ok (.iconst 0, 1) := by decide +kernel
theorem dX4_parseSaying_85 : decode cX4_parseSaying 85 = .ok (.invokevirtual 122, 3) := by decide +kernel
theorem dX4_parseSaying_88 : decode cX4_parseSaying 88 = .ok (.aload_n 0, 1) := by decide +kernel
theorem dX4_parseSaying_89 : decode cX4_parseSaying 89 = .ok (.iconst 2, 1) := by decide +kernel
theorem dX4_parseSaying_90 : decode cX4_parseSaying 90 = .ok (.invokevirtual 144, 3) := by decide +kernel
theorem dX4_parseSaying_93 : decode cX4_parseSaying 93 = .ok (.ifCond .eq 31, 3) := by decide +kernel
theorem dX4_parseSaying_96 : decode cX4_parseSaying 96 = .ok (.aload_n 0, 1) := by decide +kernel
theorem dX4_parseSaying_97 : decode cX4_parseSaying 97 = .ok (.iconst 1, 1) := by decide +kernel
theorem dX4_parseSaying_98 : decode cX4_parseSaying 98 = .ok (.bipush 99, 2) := by decide +kernel
theorem dX4_parseSaying_100 : decode cX4_parseSaying 100 = .ok (.invokevirtual 140, 3) := by decide +kernel
theorem dX4_parseSaying_103 : decode cX4_parseSaying 103 = .ok (.ifCond .eq 21, 3) := by decide +kernel
theorem dX4_parseSaying_106 : decode cX4_parseSaying 106 = .ok (.aload_n 0, 1) := by decide +kernel
theorem dX4_parseSaying_107 : decode cX4_parseSaying 107 = .ok (.iconst 3, 1) := by decide +kernel
theorem dX4_parseSaying_108 : decode cX4_parseSaying 108 = .ok (.invokevirtual 144, 3) := by decide +kernel
theorem dX4_parseSaying_111 : decode cX4_parseSaying 111 = .ok (.ifCond .eq 13, 3) := by decide +kernel
theorem dX4_parseSaying_114 : decode cX4_parseSaying 114 = .ok (.aload_n 0, 1) := by decide +kernel
theorem dX4_parseSaying_115 : decode cX4_parseSaying 115 = .ok (.iconst 0, 1) := by decide +kernel
theorem dX4_parseSaying_116 : decode cX4_parseSaying 116 = .ok (.bipush 9, 2) := by decide +kernel
theorem dX4_parseSaying_118 : decode cX4_parseSaying 118 = .ok (.invokevirtual 140, 3) := by decide +kernel
theorem dX4_parseSaying_121 : decode cX4_parseSaying 121 = .ok (.ifCond .ne 5, 3) := by decide +kernel
theorem dX4_parseSaying_124 : decode cX4_parseSaying 124 = .ok (.iconst 0, 1) := by decide +kernel
theorem dX4_parseSaying_125 : decode cX4_parseSaying 125 = .ok (.ireturn, 1) := by decide +kernel
theorem dX4_parseSaying_126 : decode cX4_parseSaying 126 = .ok (.aload_n 0, 1) := by decide +kernel
theorem dX4_parseSaying_127 : decode cX4_parseSaying 127 = .ok (.iconst 4, 1) := by decide +kernel
theorem dX4_parseSaying_128 : decode cX4_parseSaying 128 = .ok (.invokevirtual 134, 3) := by decide +kernel
theorem dX4_parseSaying_131 : decode cX4_parseSaying 131 = .ok (.istore_n 1, 1) := by decide +kernel
theorem dX4_parseSaying_132 : decode cX4_parseSaying 132 = .ok (.iload_n 1, 1) := by decide +kernel
theorem dX4_parseSaying_133 : decode cX4_parseSaying 133 = .ok (.ifCond .eq 7, 3) := by decide +kernel
theorem dX4_parseSaying_136 : decode cX4_parseSaying 136 = .ok (.aload_n 0, 1) := by decide +kernel
theorem dX4_parseSaying_137 : decode cX4_parseSaying 137 = .ok (.invokevirtual 125, 3) := by decide +kernel
theorem dX4_parseSaying_140 : decode cX4_parseSaying 140 = .ok (.aload_n 0, 1) := by decide +kernel
theorem dX4_parseSaying_141 : decode cX4_parseSaying 141 = .ok (.getfield 16, 3) := by decide +kernel
theorem dX4_parseSaying_144 : decode cX4_parseSaying 144 = .ok (.iload_n 1, 1) := by decide +kernel
theorem dX4_parseSaying_145 : decode cX4_parseSaying 145 = .ok (.ifCond .eq 7, 3) := by decide +kernel
theorem dX4_parseSaying_148 : decode cX4_parseSaying 148 = .ok (.iconst 1, 1) := by decide +kernel
theorem dX4_parseSaying_149 : decode cX4_parseSaying 149 = .ok (.goto 4, 3) := by decide +kernel
theorem dX4_parseSaying_152 : decode cX4_parseSaying 152 = .ok (.iconst 0, 1) := by decide +kernel
theorem dX4_parseSaying_153 : decode cX4_parseSaying 153 = .ok (.invokevirtual 122, 3) := by decide +kernel
theorem dX4_parseSaying_156 : decode cX4_parseSaying 156 = .ok (.iconst 1, 1) := by decide +kernel
theorem dX4_parseSaying_157 : decode cX4_parseSaying 157 = .ok (.ireturn, 1) := by decide +kernel
theorem dX4_parseHabit_0 : decode cX4_parseHabit 0 = .ok (.aload_n 0, 1) := by decide +kernel
theorem dX4_parseHabit_1 : decode cX4_parseHabit 1 = .ok (.invokevirtual 125, 3) := by decide +kernel
theorem dX4_parseHabit_4 : decode cX4_parseHabit 4 = .ok (.aload_n 0, 1) := by decide +kernel
theorem dX4_parseHabit_5 : decode cX4_parseHabit 5 = .ok (.iconst 1, 1) := by decide +kernel
theorem dX4_parseHabit_6 : decode cX4_parseHabit 6 = .ok (.invokevirtual 144, 3) := by decide +kernel
theorem dX4_parseHabit_9 : decode cX4_parseHabit 9 = .ok (.ifCond .eq 37, 3) := by decide +kernel
theorem dX4_parseHabit_12 : decode cX4_parseHabit 12 = .ok (.aload_n 0, 1) := by decide +kernel
theorem dX4_parseHabit_13 : decode cX4_parseHabit 13 = .ok (.iconst 1, 1) := by decide +kernel
theorem dX4_parseHabit_14 : decode cX4_parseHabit 14 = .ok (.sipush 999, 3) := by decide +kernel
theorem dX4_parseHabit_17 : decode cX4_parseHabit 17 = .ok (.invokevirtual 140, 3) := by decide +kernel
theorem dX4_parseHabit_20 : decode cX4_parseHabit 20 = .ok (.ifCond .eq 26, 3) := by decide +kernel
theorem dX4_parseHabit_23 : decode cX4_parseHabit 23 = .ok (.aload_n 0, 1) := by decide +kernel
theorem dX4_parseHabit_24 : decode cX4_parseHabit 24 = .ok (.iconst 2, 1) := by decide +kernel
theorem dX4_parseHabit_25 : decode cX4_parseHabit 25 = .ok (.invokevirtual 144, 3) := by decide +kernel
theorem dX4_parseHabit_28 : decode cX4_parseHabit 28 = .ok (.ifCond .eq 18, 3) := by decide +kernel
theorem dX4_parseHabit_31 : decode cX4_parseHabit 31 = .ok (.aload_n 0, 1) := by decide +kernel
theorem dX4_parseHabit_32 : decode cX4_parseHabit 32 = .ok (.iconst 1, 1) := by decide +kernel
theorem dX4_parseHabit_33 : decode cX4_parseHabit 33 = .ok (.sipush 999, 3) := by decide +kernel
theorem dX4_parseHabit_36 : decode cX4_parseHabit 36 = .ok (.invokevirtual 140, 3) := by decide +kernel
theorem dX4_parseHabit_39 : decode cX4_parseHabit 39 = .ok (.ifCond .eq 7, 3) := by decide +kernel
theorem dX4_parseHabit_42 : decode cX4_parseHabit 42 = .ok (.iconst 1, 1) := by decide +kernel
theorem dX4_parseHabit_43 : decode cX4_parseHabit 43 = .ok (.goto 4, 3) := by decide +kernel
theorem dX4_parseHabit_46 : decode cX4_parseHabit 46 = .ok (.iconst 0, 1) := by decide +kernel
theorem dX4_parseHabit_47 : decode cX4_parseHabit 47 = .ok (.ireturn, 1) := by decide +kernel
theorem dX4_parseCondition_0 : decode cX4_parseCondition 0 = .ok (.iconst 0, 1) := by decide +kernel
theorem dX4_parseCondition_1 : decode cX4_parseCondition 1 = .ok (.istore_n 2, 1) := by decide +kernel
theorem dX4_parseCondition_2 : decode cX4_parseCondition 2 = .ok (.iconst 0, 1) := by decide +kernel
theorem dX4_parseCondition_3 : decode cX4_parseCondition 3 = .ok (.istore_n 3, 1) := by decide +kernel
theorem dX4_parseCondition_4 : decode cX4_parseCondition 4 = .ok (.iconst 0, 1) := by decide +kernel
theorem dX4_parseCondition_5 : decode cX4_parseCondition 5 = .ok (.istore 4, 2) := by decide +kernel
theorem dX4_parseCondition_7 : decode cX4_parseCondition 7 = .ok (.iload 4, 2) := by decide +kernel
theorem dX4_parseCondition_9 : decode cX4_parseCondition 9 = .ok (.sipush 400, 3) := by decide +kernel
theorem dX4_parseCondition_12 : decode cX4_parseCondition 12 = .ok (.if_icmp .gt 77, 3) := by decide +kernel
theorem dX4_parseCondition_15 : decode cX4_parseCondition 15 = .ok (.aload_n 0, 1) := by decide +kernel
theorem dX4_parseCondition_16 : decode cX4_parseCondition 16 = .ok (.iload_n 1, 1) := by decide +kernel
theorem dX4_parseCondition_17 : decode cX4_parseCondition 17 = .ok (.invokevirtual 150, 3) := by decide +kernel
theorem dX4_parseCondition_20 : decode cX4_parseCondition 20 = .ok (.ifCond .ne 5, 3) := by decide +kernel
theorem dX4_parseCondition_23 : decode cX4_parseCondition 23 = .ok (.iconst 0, 1) := by decide +kernel
theorem dX4_parseCondition_24 : decode cX4_parseCondition 24 = .ok (.ireturn, 1) := by decide +kernel
theorem dX4_parseCondition_25 : decode cX4_parseCondition 25 = .ok (.iload_n 2, 1) := by decide +kernel
theorem dX4_parseCondition_26 : decode cX4_parseCondition 26 = .ok (.ifCond .eq 12, 3) := by decide +kernel
theorem dX4_parseCondition_29 : decode cX4_parseCondition 29 = .ok (.aload_n 0, 1) := by decide +kernel
theorem dX4_parseCondition_30 : decode cX4_parseCondition 30 = .ok (.getfield 16, 3) := by decide +kernel
theorem dX4_parseCondition_33 : decode cX4_parseCondition 33 = .ok (.bipush 10, 2) := by decide +kernel
theorem dX4_parseCondition_35 : decode cX4_parseCondition 35 = .ok (.invokevirtual 153, 3) := by decide +kernel
theorem dX4_parseCondition_38 : decode cX4_parseCondition 38 = .ok (.aload_n 0, 1) := by decide +kernel
theorem dX4_parseCondition_39 : decode cX4_parseCondition 39 = .ok (.bipush 7, 2) := by decide +kernel
theorem dX4_parseCondition_41 : decode cX4_parseCondition 41 = .ok (.invokevirtual 134, 3) := by decide +kernel
theorem dX4_parseCondition_44 : decode cX4_parseCondition 44 = .ok (.istore_n 2, 1) := by decide +kernel
theorem dX4_parseCondition_45 : decode cX4_parseCondition 45 = .ok (.iload_n 2, 1) := by decide +kernel
theorem dX4_parseCondition_46 : decode cX4_parseCondition 46 = .ok (.ifCond .ne 23, 3) := by decide +kernel
theorem dX4_parseCondition_49 : decode cX4_parseCondition 49 = .ok (.iload_n 3, 1) := by decide +kernel
theorem dX4_parseCondition_50 : decode cX4_parseCondition 50 = .ok (.ifCond .eq 12, 3) := by decide +kernel
theorem dX4_parseCondition_53 : decode cX4_parseCondition 53 = .ok (.aload_n 0, 1) := by decide +kernel
theorem dX4_parseCondition_54 : decode cX4_parseCondition 54 = .ok (.getfield 16, 3) := by decide +kernel
theorem dX4_parseCondition_57 : decode cX4_parseCondition 57 = .ok (.bipush 11, 2) := by decide +kernel
theorem dX4_parseCondition_59 : decode cX4_parseCondition 59 = .ok (.invokevirtual 153, 3) := by decide +kernel
theorem dX4_parseCondition_62 : decode cX4_parseCondition 62 = .ok (.aload_n 0, 1) := by decide +kernel
theorem dX4_parseCondition_63 : decode cX4_parseCondition 63 = .ok (.bipush 6, 2) := by decide +kernel
theorem dX4_parseCondition_65 : decode cX4_parseCondition 65 = .ok (.invokevirtual 134, 3) := by decide +kernel
theorem dX4_parseCondition_68 : decode cX4_parseCondition 68 = .ok (.istore_n 3, 1) := by decide +kernel
theorem dX4_parseCondition_69 : decode cX4_parseCondition 69 = .ok (.iload_n 2, 1) := by decide +kernel
theorem dX4_parseCondition_70 : decode cX4_parseCondition 70 = .ok (.ifCond .ne 9, 3) := by decide +kernel
theorem dX4_parseCondition_73 : decode cX4_parseCondition 73 = .ok (.iload_n 3, 1) := by decide +kernel
theorem dX4_parseCondition_74 : decode cX4_parseCondition 74 = .ok (.ifCond .ne 5, 3) := by decide +kernel
theorem dX4_parseCondition_77 : decode cX4_parseCondition 77 = .ok (.iconst 1, 1) := by decide +kernel
theorem dX4_parseCondition_78 : decode cX4_parseCondition 78 = .ok (.ireturn, 1) := by decide +kernel
theorem dX4_parseCondition_79 : decode cX4_parseCondition 79 = .ok (.aload_n 0, 1) := by decide +kernel
theorem dX4_parseCondition_80 : decode cX4_parseCondition 80 = .ok (.invokevirtual 125, 3) := by decide +kernel
theorem dX4_parseCondition_83 : decode cX4_parseCondition 83 = .ok (.iinc 4 1, 3) := by decide +kernel
theorem dX4_parseCondition_86 : decode cX4_parseCondition 86 = .ok (.goto (-79), 3) := by decide +kernel
theorem dX4_parseCondition_89 : decode cX4_parseCondition 89 = .ok (.aload_n 0, 1) := by decide +kernel
theorem dX4_parseCondition_90 : decode cX4_parseCondition 90 = .ok (.iconst 1, 1) := by decide +kernel
theorem dX4_parseCondition_91 : decode cX4_parseCondition 91 = .ok (.invokevirtual 100, 3) := by decide +kernel
theorem dX4_parseCondition_94 : decode cX4_parseCondition 94 = .ok (.ireturn, 1) := by decide +kernel
theorem dX4_parseSingle_0 : decode cX4_parseSingle 0 = .ok (.aload_n 0, 1) := by decide +kernel
theorem dX4_parseSingle_1 : decode cX4_parseSingle 1 = .ok (.bipush 8, 2) := by decide +kernel
theorem dX4_parseSingle_3 : decode cX4_parseSingle 3 = .ok (.invokevirtual 134, 3) := by decide +kernel
theorem dX4_parseSingle_6 : decode cX4_parseSingle 6 = .ok (.istore_n 2, 1) := by decide +kernel
theorem dX4_parseSingle_7 : decode cX4_parseSingle 7 = .ok (.iload_n 2, 1) := by decide +kernel
theorem dX4_parseSingle_8 : decode cX4_parseSingle 8 = .ok (.ifCond .ne 12, 3) := by decide +kernel
theorem dX4_parseSingle_11 : decode cX4_parseSingle 11 = .ok (.aload_n 0, 1) := by decide +kernel
theorem dX4_parseSingle_12 : decode cX4_parseSingle 12 = .ok (.bipush 40, 2) := by decide +kernel
theorem dX4_parseSingle_14 : decode cX4_parseSingle 14 = .ok (.invokevirtual 156, 3) := by decide +kernel
theorem dX4_parseSingle_17 : decode cX4_parseSingle 17 = .ok (.ifCond .eq 70, 3) := by decide +kernel
theorem dX4_parseSingle_20 : decode cX4_parseSingle 20 = .ok (.iload_n 1, 1) := by decide +kernel
theorem dX4_parseSingle_21 : decode cX4_parseSingle 21 = .ok (.bipush 8, 2) := by decide +kernel
theorem dX4_parseSingle_23 : decode cX4_parseSingle 23 = .ok (.if_icmp .lt 9, 3) := by decide +kernel
theorem dX4_parseSingle_26 : decode cX4_parseSingle 26 = .ok (.aload_n 0, 1) := by decide +kernel
theorem dX4_parseSingle_27 : decode cX4_parseSingle 27 = .ok (.iconst 3, 1) := by decide +kernel
theorem dX4_parseSingle_28 : decode cX4_parseSingle 28 = .ok (.invokevirtual 100, 3) := by decide +kernel
theorem dX4_parseSingle_31 : decode cX4_parseSingle 31 = .ok (.ireturn, 1) := by decide +kernel
theorem dX4_parseSingle_32 : decode cX4_parseSingle 32 = .ok (.aload_n 0, 1) := by decide +kernel
theorem dX4_parseSingle_33 : decode cX4_parseSingle 33 = .ok (.invokevirtual 125, 3) := by decide +kernel
theorem dX4_parseSingle_36 : decode cX4_parseSingle 36 = .ok (.iload_n 2, 1) := by decide +kernel
theorem dX4_parseSingle_37 : decode cX4_parseSingle 37 = .ok (.ifCond .ne 28, 3) := by decide +kernel
theorem dX4_parseSingle_40 : decode cX4_parseSingle 40 = .ok (.aload_n 0, 1) := by decide +kernel
theorem dX4_parseSingle_41 : decode cX4_parseSingle 41 = .ok (.iload_n 1, 1) := by decide +kernel
theorem dX4_parseSingle_42 : decode cX4_parseSingle 42 = .ok (.iconst 1, 1) := by decide +kernel
theorem dX4_parseSingle_43 : decode cX4_parseSingle 43 = .ok (.iadd, 1) := by decide +kernel
theorem dX4_parseSingle_44 : decode cX4_parseSingle 44 = .ok (.invokevirtual 137, 3) := by decide +kernel
theorem dX4_parseSingle_47 : decode cX4_parseSingle 47 = .ok (.ifCond .eq 16, 3) := by decide +kernel
theorem dX4_parseSingle_50 : decode cX4_parseSingle 50 = .ok (.aload_n 0, 1) := by decide +kernel
theorem dX4_parseSingle_51 : decode cX4_parseSingle 51 = .ok (.bipush 41, 2) := by decide +kernel
theorem dX4_parseSingle_53 : decode cX4_parseSingle 53 = .ok (.invokevirtual 119, 3) := by decide +kernel
theorem dX4_parseSingle_56 : decode cX4_parseSingle 56 = .ok (.ifCond .eq 7, 3) := by decide +kernel
theorem dX4_parseSingle_59 : decode cX4_parseSingle 59 = .ok (.iconst 1, 1) := by decide +kernel
theorem dX4_parseSingle_60 : decode cX4_parseSingle 60 = .ok (.goto 4, 3) := by decide +kernel
theorem dX4_parseSingle_63 : decode cX4_parseSingle 63 = .ok (.iconst 0, 1) := by decide +kernel
theorem dX4_parseSingle_64 : decode cX4_parseSingle 64 = .ok (.ireturn, 1) := by decide +kernel
theorem dX4_parseSingle_65 : decode cX4_parseSingle 65 = .ok (.aload_n 0, 1) := by decide +kernel
theorem dX4_parseSingle_66 : decode cX4_parseSingle 66 = .ok (.iload_n 1, 1) := by decide +kernel
theorem dX4_parseSingle_67 : decode cX4_parseSingle 67 = .ok (.iconst 1, 1) := by decide +kernel
theorem dX4_parseSingle_68 : decode cX4_parseSingle 68 = .ok (.iadd, 1) := by decide +kernel
theorem dX4_parseSingle_69 : decode cX4_parseSingle 69 = .ok (.invokevirtual 150, 3) := by decide +kernel
theorem dX4_parseSingle_72 : decode cX4_parseSingle 72 = .ok (.ifCond .ne 5, 3) := by decide +kernel
theorem dX4_parseSingle_75 : decode cX4_parseSingle 75 = .ok (.iconst 0, 1) := by decide +kernel
theorem dX4_parseSingle_76 : decode cX4_parseSingle 76 = .ok (.ireturn, 1) := by decide +kernel
theorem dX4_parseSingle_77 : decode cX4_parseSingle 77 = .ok (.aload_n 0, 1) := by decide +kernel
theorem dX4_parseSingle_78 : decode cX4_parseSingle 78 = .ok (.getfield 16, 3) := by decide +kernel
theorem dX4_parseSingle_81 : decode cX4_parseSingle 81 = .ok (.iconst 3, 1) := by decide +kernel
theorem dX4_parseSingle_82 : decode cX4_parseSingle 82 = .ok (.invokevirtual 153, 3) := by decide +kernel
theorem dX4_parseSingle_85 : decode cX4_parseSingle 85 = .ok (.iconst 1, 1) := by decide +kernel
theorem dX4_parseSingle_86 : decode cX4_parseSingle 86 = .ok (.ireturn, 1) := by decide +kernel
theorem dX4_parseSingle_87 : decode cX4_parseSingle 87 = .ok (.aload_n 0, 1) := by decide +kernel
theorem dX4_parseSingle_88 : decode cX4_parseSingle 88 = .ok (.invokevirtual 131, 3) := by decide +kernel
theorem dX4_parseSingle_91 : decode cX4_parseSingle 91 = .ok (.ifCond .ne 5, 3) := by decide +kernel
theorem dX4_parseSingle_94 : decode cX4_parseSingle 94 = .ok (.iconst 0, 1) := by decide +kernel
theorem dX4_parseSingle_95 : decode cX4_parseSingle 95 = .ok (.ireturn, 1) := by decide +kernel
theorem dX4_parseSingle_96 : decode cX4_parseSingle 96 = .ok (.aload_n 0, 1) := by decide +kernel
theorem dX4_parseSingle_97 : decode cX4_parseSingle 97 = .ok (.invokevirtual 159, 3) := by decide +kernel
theorem dX4_parseSingle_100 : decode cX4_parseSingle 100 = .ok (.istore_n 3, 1) := by decide +kernel
theorem dX4_parseSingle_101 : decode cX4_parseSingle 101 = .ok (.iload_n 3, 1) := by decide +kernel
theorem dX4_parseSingle_102 : decode cX4_parseSingle 102 = .ok (.iconst (-1), 1) := by decide +kernel
theorem dX4_parseSingle_103 : decode cX4_parseSingle 103 = .ok (.if_icmp .ne 9, 3) := by decide +kernel
theorem dX4_parseSingle_106 : decode cX4_parseSingle 106 = .ok (.aload_n 0, 1) := by decide +kernel
theorem dX4_parseSingle_107 : decode cX4_parseSingle 107 = .ok (.iconst 1, 1) := by decide +kernel
theorem dX4_parseSingle_108 : decode cX4_parseSingle 108 = .ok (.invokevirtual 100, 3) := by decide +kernel
theorem dX4_parseSingle_111 : decode cX4_parseSingle 111 = .ok (.ireturn, 1) := by decide +kernel
theorem dX4_parseSingle_112 : decode cX4_parseSingle 112 = .ok (.aload_n 0, 1) := by decide +kernel
theorem dX4_parseSingle_113 : decode cX4_parseSingle 113 = .ok (.invokevirtual 125, 3) := by decide +kernel
theorem dX4_parseSingle_116 : decode cX4_parseSingle 116 = .ok (.aload_n 0, 1) := by decide +kernel
theorem dX4_parseSingle_117 : decode cX4_parseSingle 117 = .ok (.invokevirtual 131, 3) := by decide +kernel
theorem dX4_parseSingle_120 : decode cX4_parseSingle 120 = .ok (.ifCond .ne 5, 3) := by decide +kernel
theorem dX4_parseSingle_123 : decode cX4_parseSingle 123 = .ok (.iconst 0, 1) := by decide +kernel
theorem dX4_parseSingle_124 : decode cX4_parseSingle 124 = .ok (.ireturn, 1) := by decide +kernel
theorem dX4_parseSingle_125 : decode cX4_parseSingle 125 = .ok (.aload_n 0, 1) := by decide +kernel
theorem dX4_parseSingle_126 : decode cX4_parseSingle 126 = .ok (.getfield 16, 3) := by decide +kernel
theorem dX4_parseSingle_129 : decode cX4_parseSingle 129 = .ok (.iload_n 3, 1) := by decide +kernel
theorem dX4_parseSingle_130 : decode cX4_parseSingle 130 = .ok (.invokevirtual 153, 3) := by decide +kernel
theorem dX4_parseSingle_133 : decode cX4_parseSingle 133 = .ok (.iconst 1, 1) := by decide +kernel
theorem dX4_parseSingle_134 : decode cX4_parseSingle 134 = .ok (.ireturn, 1) := by decide +kernel
theorem dX4_comparisonHere_0 : decode cX4_comparisonHere 0 = .ok (.aload_n 0, 1) := by decide +kernel
theorem dX4_comparisonHere_1 : decode cX4_comparisonHere 1 = .ok (.bipush 60, 2) := by decide +kernel
theorem dX4_comparisonHere_3 : decode cX4_comparisonHere 3 = .ok (.invokevirtual 156, 3) := by decide +kernel
theorem dX4_comparisonHere_6 : decode cX4_comparisonHere 6 = .ok (.ifCond .eq 6, 3) := by decide +kernel
theorem dX4_comparisonHere_9 : decode cX4_comparisonHere 9 = .ok (.bipush 7, 2) := by decide +kernel
theorem dX4_comparisonHere_11 : decode cX4_comparisonHere 11 = .ok (.ireturn, 1) := by decide +kernel
theorem dX4_comparisonHere_12 : decode cX4_comparisonHere 12 = .ok (.aload_n 0, 1) := by decide +kernel
theorem dX4_comparisonHere_13 : decode cX4_comparisonHere 13 = .ok (.bipush 61, 2) := by decide +kernel
theorem dX4_comparisonHere_15 : decode cX4_comparisonHere 15 = .ok (.invokevirtual 156, 3) := by decide +kernel
theorem dX4_comparisonHere_18 : decode cX4_comparisonHere 18 = .ok (.ifCond .eq 6, 3) := by decide +kernel
theorem dX4_comparisonHere_21 : decode cX4_comparisonHere 21 = .ok (.bipush 8, 2) := by decide +kernel
theorem dX4_comparisonHere_23 : decode cX4_comparisonHere 23 = .ok (.ireturn, 1) := by decide +kernel
theorem dX4_comparisonHere_24 : decode cX4_comparisonHere 24 = .ok (.aload_n 0, 1) := by decide +kernel
theorem dX4_comparisonHere_25 : decode cX4_comparisonHere 25 = .ok (.bipush 62, 2) := by decide +kernel
theorem dX4_comparisonHere_27 : decode cX4_comparisonHere 27 = .ok (.invokevirtual 156, 3) := by decide +kernel
theorem dX4_comparisonHere_30 : decode cX4_comparisonHere 30 = .ok (.ifCond .eq 8, 3) := by decide +kernel
theorem dX4_comparisonHere_33 : decode cX4_comparisonHere 33 = .ok (.bipush 9, 2) := by decide +kernel
theorem dX4_comparisonHere_35 : decode cX4_comparisonHere 35 = .ok (.goto 4, 3) := by decide +kernel
theorem dX4_comparisonHere_38 : decode cX4_comparisonHere 38 = .ok (.iconst (-1), 1) := by decide +kernel
theorem dX4_comparisonHere_39 : decode cX4_comparisonHere 39 = .ok (.ireturn, 1) := by decide +kernel
theorem dX4_parseSum_0 : decode cX4_parseSum 0 = .ok (.iconst (-1), 1) := by decide +kernel
theorem dX4_parseSum_1 : decode cX4_parseSum 1 = .ok (.istore_n 1, 1) := by decide +kernel
theorem dX4_parseSum_2 : decode cX4_parseSum 2 = .ok (.iconst 0, 1) := by decide +kernel
theorem dX4_parseSum_3 : decode cX4_parseSum 3 = .ok (.istore_n 2, 1) := by decide +kernel
theorem dX4_parseSum_4 : decode cX4_parseSum 4 = .ok (.iconst 0, 1) := by decide +kernel
theorem dX4_parseSum_5 : decode cX4_parseSum 5 = .ok (.istore_n 3, 1) := by decide +kernel
theorem dX4_parseSum_6 : decode cX4_parseSum 6 = .ok (.iload_n 3, 1) := by decide +kernel
theorem dX4_parseSum_7 : decode cX4_parseSum 7 = .ok (.sipush 400, 3) := by decide +kernel
theorem dX4_parseSum_10 : decode cX4_parseSum 10 = .ok (.if_icmp .gt 107, 3) := by decide +kernel
theorem dX4_parseSum_13 : decode cX4_parseSum 13 = .ok (.aload_n 0, 1) := by decide +kernel
theorem dX4_parseSum_14 : decode cX4_parseSum 14 = .ok (.invokevirtual 162, 3) := by decide +kernel
theorem dX4_parseSum_17 : decode cX4_parseSum 17 = .ok (.ifCond .ne 5, 3) := by decide +kernel
theorem dX4_parseSum_20 : decode cX4_parseSum 20 = .ok (.iconst 0, 1) := by decide +kernel
theorem dX4_parseSum_21 : decode cX4_parseSum 21 = .ok (.ireturn, 1) := by decide +kernel
theorem dX4_parseSum_22 : decode cX4_parseSum 22 = .ok (.iload_n 2, 1) := by decide +kernel
theorem dX4_parseSum_23 : decode cX4_parseSum 23 = .ok (.ifCond .eq 12, 3) := by decide +kernel
theorem dX4_parseSum_26 : decode cX4_parseSum 26 = .ok (.aload_n 0, 1) := by decide +kernel
theorem dX4_parseSum_27 : decode cX4_parseSum 27 = .ok (.getfield 16, 3) := by decide +kernel
theorem dX4_parseSum_30 : decode cX4_parseSum 30 = .ok (.bipush 6, 2) := by decide +kernel
theorem dX4_parseSum_32 : decode cX4_parseSum 32 = .ok (.invokevirtual 153, 3) := by decide +kernel
theorem dX4_parseSum_35 : decode cX4_parseSum 35 = .ok (.aload_n 0, 1) := by decide +kernel
theorem dX4_parseSum_36 : decode cX4_parseSum 36 = .ok (.invokevirtual 165, 3) := by decide +kernel
theorem dX4_parseSum_39 : decode cX4_parseSum 39 = .ok (.ifCond .ne 5, 3) := by decide +kernel
theorem dX4_parseSum_42 : decode cX4_parseSum 42 = .ok (.iconst 0, 1) := by decide +kernel
theorem dX4_parseSum_43 : decode cX4_parseSum 43 = .ok (.ireturn, 1) := by decide +kernel
theorem dX4_parseSum_44 : decode cX4_parseSum 44 = .ok (.aload_n 0, 1) := by decide +kernel
theorem dX4_parseSum_45 : decode cX4_parseSum 45 = .ok (.bipush 42, 2) := by decide +kernel
theorem dX4_parseSum_47 : decode cX4_parseSum 47 = .ok (.invokevirtual 156, 3) := by decide +kernel
theorem dX4_parseSum_50 : decode cX4_parseSum 50 = .ok (.istore_n 2, 1) := by decide +kernel
theorem dX4_parseSum_51 : decode cX4_parseSum 51 = .ok (.iload_n 2, 1) := by decide +kernel
theorem dX4_parseSum_52 : decode cX4_parseSum 52 = .ok (.ifCond .ne 44, 3) := by decide +kernel
theorem dX4_parseSum_55 : decode cX4_parseSum 55 = .ok (.iload_n 1, 1) := by decide +kernel
theorem dX4_parseSum_56 : decode cX4_parseSum 56 = .ok (.iconst (-1), 1) := by decide +kernel
theorem dX4_parseSum_57 : decode cX4_parseSum 57 = .ok (.if_icmp .eq 11, 3) := by decide +kernel
theorem dX4_parseSum_60 : decode cX4_parseSum 60 = .ok (.aload_n 0, 1) := by decide +kernel
theorem dX4_parseSum_61 : decode cX4_parseSum 61 = .ok (.getfield 16, 3) := by decide +kernel
theorem dX4_parseSum_64 : decode cX4_parseSum 64 = .ok (.iload_n 1, 1) := by decide +kernel
theorem dX4_parseSum_65 : decode cX4_parseSum 65 = .ok (.invokevirtual 153, 3) := by decide +kernel
theorem dX4_parseSum_68 : decode cX4_parseSum 68 = .ok (.aload_n 0, 1) := by decide +kernel
theorem dX4_parseSum_69 : decode cX4_parseSum 69 = .ok (.bipush 43, 2) := by decide +kernel
theorem dX4_parseSum_71 : decode cX4_parseSum 71 = .ok (.invokevirtual 156, 3) := by decide +kernel
theorem dX4_parseSum_74 : decode cX4_parseSum 74 = .ok (.ifCond .eq 7, 3) := by decide +kernel
theorem dX4_parseSum_77 : decode cX4_parseSum 77 = .ok (.iconst 4, 1) := by decide +kernel
theorem dX4_parseSum_78 : decode cX4_parseSum 78 = .ok (.goto 17, 3) := by decide +kernel
theorem dX4_parseSum_81 : decode cX4_parseSum 81 = .ok (.aload_n 0, 1) := by decide +kernel
theorem dX4_parseSum_82 : decode cX4_parseSum 82 = .ok (.bipush 45, 2) := by decide +kernel
theorem dX4_parseSum_84 : decode cX4_parseSum 84 = .ok (.invokevirtual 156, 3) := by decide +kernel
theorem dX4_parseSum_87 : decode cX4_parseSum 87 = .ok (.ifCond .eq 7, 3) := by decide +kernel
theorem dX4_parseSum_90 : decode cX4_parseSum 90 = .ok (.iconst 5, 1) := by decide +kernel
theorem dX4_parseSum_91 : decode cX4_parseSum 91 = .ok (.goto 4, 3) := by decide +kernel
theorem dX4_parseSum_94 : decode cX4_parseSum 94 = .ok (.iconst (-1), 1) := by decide +kernel
theorem dX4_parseSum_95 : decode cX4_parseSum 95 = .ok (.istore_n 1, 1) := by decide +kernel
theorem dX4_parseSum_96 : decode cX4_parseSum 96 = .ok (.iload_n 2, 1) := by decide +kernel
theorem dX4_parseSum_97 : decode cX4_parseSum 97 = .ok (.ifCond .ne 10, 3) := by decide +kernel
theorem dX4_parseSum_100 : decode cX4_parseSum 100 = .ok (.iload_n 1, 1) := by decide +kernel
theorem dX4_parseSum_101 : decode cX4_parseSum 101 = .ok (.iconst (-1), 1) := by decide +kernel
theorem dX4_parseSum_102 : decode cX4_parseSum 102 = .ok (.if_icmp .ne 5, 3) := by decide +kernel
theorem dX4_parseSum_105 : decode cX4_parseSum 105 = .ok (.iconst 1, 1) := by decide +kernel
theorem dX4_parseSum_106 : decode cX4_parseSum 106 = .ok (.ireturn, 1) := by decide +kernel
theorem dX4_parseSum_107 : decode cX4_parseSum 107 = .ok (.aload_n 0, 1) := by decide +kernel
theorem dX4_parseSum_108 : decode cX4_parseSum 108 = .ok (.invokevirtual 125, 3) := by decide +kernel
theorem dX4_parseSum_111 : decode cX4_parseSum 111 = .ok (.iinc 3 1, 3) := by decide +kernel
theorem dX4_parseSum_114 : decode cX4_parseSum 114 = .ok (.goto (-108), 3) := by decide +kernel
theorem dX4_parseSum_117 : decode cX4_parseSum 117 = .ok (.aload_n 0, 1) := by decide +kernel
theorem dX4_parseSum_118 : decode cX4_parseSum 118 = .ok (.iconst 1, 1) := by decide +kernel
theorem dX4_parseSum_119 : decode cX4_parseSum 119 = .ok (.invokevirtual 100, 3) := by decide +kernel
theorem dX4_parseSum_122 : decode cX4_parseSum 122 = .ok (.ireturn, 1) := by decide +kernel
theorem dX4_takeOperand_0 : decode cX4_takeOperand 0 = .ok (.aload_n 0, 1) := by decide +kernel
theorem dX4_takeOperand_1 : decode cX4_takeOperand 1 = .ok (.getfield 28, 3) := by decide +kernel
theorem dX4_takeOperand_4 : decode cX4_takeOperand 4 = .ok (.aload_n 0, 1) := by decide +kernel
theorem dX4_takeOperand_5 : decode cX4_takeOperand 5 = .ok (.getfield 50, 3) := by decide +kernel
theorem dX4_takeOperand_8 : decode cX4_takeOperand 8 = .ok (.iaload, 1) := by decide +kernel
theorem dX4_takeOperand_9 : decode cX4_takeOperand 9 = .ok (.iconst 2, 1) := by decide +kernel
theorem dX4_takeOperand_10 : decode cX4_takeOperand 10 = .ok (.if_icmp .ne 26, 3) := by decide +kernel
theorem dX4_takeOperand_13 : decode cX4_takeOperand 13 = .ok (.aload_n 0, 1) := by decide +kernel
theorem dX4_takeOperand_14 : decode cX4_takeOperand 14 = .ok (.getfield 16, 3) := by decide +kernel
theorem dX4_takeOperand_17 : decode cX4_takeOperand 17 = .ok (.iconst 0, 1) := by decide +kernel
theorem dX4_takeOperand_18 : decode cX4_takeOperand 18 = .ok (.aload_n 0, 1) := by decide +kernel
theorem dX4_takeOperand_19 : decode cX4_takeOperand 19 = .ok (.getfield 31, 3) := by decide +kernel
theorem dX4_takeOperand_22 : decode cX4_takeOperand 22 = .ok (.aload_n 0, 1) := by decide +kernel
theorem dX4_takeOperand_23 : decode cX4_takeOperand 23 = .ok (.getfield 50, 3) := by decide +kernel
theorem dX4_takeOperand_26 : decode cX4_takeOperand 26 = .ok (.iaload, 1) := by decide +kernel
theorem dX4_takeOperand_27 : decode cX4_takeOperand 27 = .ok (.invokestatic 168, 3) := by decide +kernel
theorem dX4_takeOperand_30 : decode cX4_takeOperand 30 = .ok (.invokevirtual 153, 3) := by decide +kernel
theorem dX4_takeOperand_33 : decode cX4_takeOperand 33 = .ok (.goto 62, 3) := by decide +kernel
theorem dX4_takeOperand_36 : decode cX4_takeOperand 36 = .ok (.aload_n 0, 1) := by decide +kernel
theorem dX4_takeOperand_37 : decode cX4_takeOperand 37 = .ok (.getfield 28, 3) := by decide +kernel
theorem dX4_takeOperand_40 : decode cX4_takeOperand 40 = .ok (.aload_n 0, 1) := by decide +kernel
theorem dX4_takeOperand_41 : decode cX4_takeOperand 41 = .ok (.getfield 50, 3) := by decide +kernel
theorem dX4_takeOperand_44 : decode cX4_takeOperand 44 = .ok (.iaload, 1) := by decide +kernel
theorem dX4_takeOperand_45 : decode cX4_takeOperand 45 = .ok (.iconst 1, 1) := by decide +kernel
theorem dX4_takeOperand_46 : decode cX4_takeOperand 46 = .ok (.if_icmp .ne 43, 3) := by decide +kernel
theorem dX4_takeOperand_49 : decode cX4_takeOperand 49 = .ok (.aload_n 0, 1) := by decide +kernel
theorem dX4_takeOperand_50 : decode cX4_takeOperand 50 = .ok (.getfield 31, 3) := by decide +kernel
theorem dX4_takeOperand_53 : decode cX4_takeOperand 53 = .ok (.aload_n 0, 1) := by decide +kernel
theorem dX4_takeOperand_54 : decode cX4_takeOperand 54 = .ok (.getfield 50, 3) := by decide +kernel
theorem dX4_takeOperand_57 : decode cX4_takeOperand 57 = .ok (.iaload, 1) := by decide +kernel
theorem dX4_takeOperand_58 : decode cX4_takeOperand 58 = .ok (.bipush 9, 2) := by decide +kernel
theorem dX4_takeOperand_60 : decode cX4_takeOperand 60 = .ok (.if_icmp .lt 29, 3) := by decide +kernel
theorem dX4_takeOperand_63 : decode cX4_takeOperand 63 = .ok (.aload_n 0, 1) := by decide +kernel
theorem dX4_takeOperand_64 : decode cX4_takeOperand 64 = .ok (.getfield 16, 3) := by decide +kernel
theorem dX4_takeOperand_67 : decode cX4_takeOperand 67 = .ok (.iconst 1, 1) := by decide +kernel
theorem dX4_takeOperand_68 : decode cX4_takeOperand 68 = .ok (.aload_n 0, 1) := by decide +kernel
theorem dX4_takeOperand_69 : decode cX4_takeOperand 69 = .ok (.getfield 31, 3) := by decide +kernel
theorem dX4_takeOperand_72 : decode cX4_takeOperand 72 = .ok (.aload_n 0, 1) := by decide +kernel
theorem dX4_takeOperand_73 : decode cX4_takeOperand 73 = .ok (.getfield 50, 3) := by decide +kernel
theorem dX4_takeOperand_76 : decode cX4_takeOperand 76 = .ok (.iaload, 1) := by decide +kernel
theorem dX4_takeOperand_77 : decode cX4_takeOperand 77 = .ok (.bipush 9, 2) := by decide +kernel
theorem dX4_takeOperand_79 : decode cX4_takeOperand 79 = .ok (.isub, 1) := by decide +kernel
theorem dX4_takeOperand_80 : decode cX4_takeOperand 80 = .ok (.invokestatic 168, 3) := by decide +kernel
theorem dX4_takeOperand_83 : decode cX4_takeOperand 83 = .ok (.invokevirtual 153, 3) := by decide +kernel
theorem dX4_takeOperand_86 : decode cX4_takeOperand 86 = .ok (.goto 9, 3) := by decide +kernel
theorem dX4_takeOperand_89 : decode cX4_takeOperand 89 = .ok (.aload_n 0, 1) := by decide +kernel
theorem dX4_takeOperand_90 : decode cX4_takeOperand 90 = .ok (.iconst 1, 1) := by decide +kernel
theorem dX4_takeOperand_91 : decode cX4_takeOperand 91 = .ok (.invokevirtual 100, 3) := by decide +kernel
theorem dX4_takeOperand_94 : decode cX4_takeOperand 94 = .ok (.ireturn, 1) := by decide +kernel
theorem dX4_takeOperand_95 : decode cX4_takeOperand 95 = .ok (.aload_n 0, 1) := by decide +kernel
theorem dX4_takeOperand_96 : decode cX4_takeOperand 96 = .ok (.invokevirtual 125, 3) := by decide +kernel
theorem dX4_takeOperand_99 : decode cX4_takeOperand 99 = .ok (.iconst 1, 1) := by decide +kernel
theorem dX4_takeOperand_100 : decode cX4_takeOperand 100 = .ok (.ireturn, 1) := by decide +kernel
theorem dX4_takeParts_0 : decode cX4_takeParts 0 = .ok (.iconst 0, 1) := by decide +kernel
theorem dX4_takeParts_1 : decode cX4_takeParts 1 = .ok (.istore_n 1, 1) := by decide +kernel
theorem dX4_takeParts_2 : decode cX4_takeParts 2 = .ok (.iload_n 1, 1) := by decide +kernel
theorem dX4_takeParts_3 : decode cX4_takeParts 3 = .ok (.sipush 400, 3) := by decide +kernel
theorem dX4_takeParts_6 : decode cX4_takeParts 6 = .ok (.if_icmp .gt 83, 3) := by decide +kernel
theorem dX4_takeParts_9 : decode cX4_takeParts 9 = .ok (.aload_n 0, 1) := by decide +kernel
theorem dX4_takeParts_10 : decode cX4_takeParts 10 = .ok (.bipush 47, 2) := by decide +kernel
theorem dX4_takeParts_12 : decode cX4_takeParts 12 = .ok (.invokevirtual 156, 3) := by decide +kernel
theorem dX4_takeParts_15 : decode cX4_takeParts 15 = .ok (.ifCond .eq 74, 3) := by decide +kernel
theorem dX4_takeParts_18 : decode cX4_takeParts 18 = .ok (.aload_n 0, 1) := by decide +kernel
theorem dX4_takeParts_19 : decode cX4_takeParts 19 = .ok (.invokevirtual 125, 3) := by decide +kernel
theorem dX4_takeParts_22 : decode cX4_takeParts 22 = .ok (.aload_n 0, 1) := by decide +kernel
theorem dX4_takeParts_23 : decode cX4_takeParts 23 = .ok (.getfield 28, 3) := by decide +kernel
theorem dX4_takeParts_26 : decode cX4_takeParts 26 = .ok (.aload_n 0, 1) := by decide +kernel
theorem dX4_takeParts_27 : decode cX4_takeParts 27 = .ok (.getfield 50, 3) := by decide +kernel
theorem dX4_takeParts_30 : decode cX4_takeParts 30 = .ok (.iaload, 1) := by decide +kernel
theorem dX4_takeParts_31 : decode cX4_takeParts 31 = .ok (.iconst 2, 1) := by decide +kernel
theorem dX4_takeParts_32 : decode cX4_takeParts 32 = .ok (.if_icmp .eq 9, 3) := by decide +kernel
theorem dX4_takeParts_35 : decode cX4_takeParts 35 = .ok (.aload_n 0, 1) := by decide +kernel
theorem dX4_takeParts_36 : decode cX4_takeParts 36 = .ok (.iconst 1, 1) := by decide +kernel
theorem dX4_takeParts_37 : decode cX4_takeParts 37 = .ok (.invokevirtual 100, 3) := by decide +kernel
theorem dX4_takeParts_40 : decode cX4_takeParts 40 = .ok (.ireturn, 1) := by decide +kernel
theorem dX4_takeParts_41 : decode cX4_takeParts 41 = .ok (.aload_n 0, 1) := by decide +kernel
theorem dX4_takeParts_42 : decode cX4_takeParts 42 = .ok (.getfield 31, 3) := by decide +kernel
theorem dX4_takeParts_45 : decode cX4_takeParts 45 = .ok (.aload_n 0, 1) := by decide +kernel
theorem dX4_takeParts_46 : decode cX4_takeParts 46 = .ok (.getfield 50, 3) := by decide +kernel
theorem dX4_takeParts_49 : decode cX4_takeParts 49 = .ok (.iaload, 1) := by decide +kernel
theorem dX4_takeParts_50 : decode cX4_takeParts 50 = .ok (.ifCond .ne 9, 3) := by decide +kernel
theorem dX4_takeParts_53 : decode cX4_takeParts 53 = .ok (.aload_n 0, 1) := by decide +kernel
theorem dX4_takeParts_54 : decode cX4_takeParts 54 = .ok (.iconst 2, 1) := by decide +kernel
theorem dX4_takeParts_55 : decode cX4_takeParts 55 = .ok (.invokevirtual 100, 3) := by decide +kernel
theorem dX4_takeParts_58 : decode cX4_takeParts 58 = .ok (.ireturn, 1) := by decide +kernel
theorem dX4_takeParts_59 : decode cX4_takeParts 59 = .ok (.aload_n 0, 1) := by decide +kernel
theorem dX4_takeParts_60 : decode cX4_takeParts 60 = .ok (.getfield 16, 3) := by decide +kernel
theorem dX4_takeParts_63 : decode cX4_takeParts 63 = .ok (.iconst 2, 1) := by decide +kernel
theorem dX4_takeParts_64 : decode cX4_takeParts 64 = .ok (.aload_n 0, 1) := by decide +kernel
theorem dX4_takeParts_65 : decode cX4_takeParts 65 = .ok (.getfield 31, 3) := by decide +kernel
theorem dX4_takeParts_68 : decode cX4_takeParts 68 = .ok (.aload_n 0, 1) := by decide +kernel
theorem dX4_takeParts_69 : decode cX4_takeParts 69 = .ok (.getfield 50, 3) := by decide +kernel
theorem dX4_takeParts_72 : decode cX4_takeParts 72 = .ok (.iaload, 1) := by decide +kernel
theorem dX4_takeParts_73 : decode cX4_takeParts 73 = .ok (.invokestatic 168, 3) := by decide +kernel
theorem dX4_takeParts_76 : decode cX4_takeParts 76 = .ok (.invokevirtual 153, 3) := by decide +kernel
theorem dX4_takeParts_79 : decode cX4_takeParts 79 = .ok (.aload_n 0, 1) := by decide +kernel
theorem dX4_takeParts_80 : decode cX4_takeParts 80 = .ok (.invokevirtual 125, 3) := by decide +kernel
theorem dX4_takeParts_83 : decode cX4_takeParts 83 = .ok (.iinc 1 1, 3) := by decide +kernel
theorem dX4_takeParts_86 : decode cX4_takeParts 86 = .ok (.goto (-84), 3) := by decide +kernel
theorem dX4_takeParts_89 : decode cX4_takeParts 89 = .ok (.iconst 1, 1) := by decide +kernel
theorem dX4_takeParts_90 : decode cX4_takeParts 90 = .ok (.ireturn, 1) := by decide +kernel
theorem dX4_advance_0 : decode cX4_advance 0 = .ok (.aload_n 0, 1) := by decide +kernel
theorem dX4_advance_1 : decode cX4_advance 1 = .ok (.getfield 50, 3) := by decide +kernel
theorem dX4_advance_4 : decode cX4_advance 4 = .ok (.aload_n 0, 1) := by decide +kernel
theorem dX4_advance_5 : decode cX4_advance 5 = .ok (.getfield 47, 3) := by decide +kernel
theorem dX4_advance_8 : decode cX4_advance 8 = .ok (.iconst 1, 1) := by decide +kernel
theorem dX4_advance_9 : decode cX4_advance 9 = .ok (.isub, 1) := by decide +kernel
theorem dX4_advance_10 : decode cX4_advance 10 = .ok (.if_icmp .ge 13, 3) := by decide +kernel
theorem dX4_advance_13 : decode cX4_advance 13 = .ok (.aload_n 0, 1) := by decide +kernel
theorem dX4_advance_14 : decode cX4_advance 14 = .ok (.dup, 1) := by decide +kernel
theorem dX4_advance_15 : decode cX4_advance 15 = .ok (.getfield 50, 3) := by decide +kernel
theorem dX4_advance_18 : decode cX4_advance 18 = .ok (.iconst 1, 1) := by decide +kernel
theorem dX4_advance_19 : decode cX4_advance 19 = .ok (.iadd, 1) := by decide +kernel
theorem dX4_advance_20 : decode cX4_advance 20 = .ok (.putfield 50, 3) := by decide +kernel
theorem dX4_advance_23 : decode cX4_advance 23 = .ok (.return_, 1) := by decide +kernel
theorem dX4_isWord_0 : decode cX4_isWord 0 = .ok (.aload_n 0, 1) := by decide +kernel
theorem dX4_isWord_1 : decode cX4_isWord 1 = .ok (.getfield 28, 3) := by decide +kernel
theorem dX4_isWord_4 : decode cX4_isWord 4 = .ok (.aload_n 0, 1) := by decide +kernel
theorem dX4_isWord_5 : decode cX4_isWord 5 = .ok (.getfield 50, 3) := by decide +kernel
theorem dX4_isWord_8 : decode cX4_isWord 8 = .ok (.iaload, 1) := by decide +kernel
theorem dX4_isWord_9 : decode cX4_isWord 9 = .ok (.iconst 1, 1) := by decide +kernel
theorem dX4_isWord_10 : decode cX4_isWord 10 = .ok (.if_icmp .ne 20, 3) := by decide +kernel
theorem dX4_isWord_13 : decode cX4_isWord 13 = .ok (.aload_n 0, 1) := by decide +kernel
theorem dX4_isWord_14 : decode cX4_isWord 14 = .ok (.getfield 31, 3) := by decide +kernel
theorem dX4_isWord_17 : decode cX4_isWord 17 = .ok (.aload_n 0, 1) := by decide +kernel
theorem dX4_isWord_18 : decode cX4_isWord 18 = .ok (.getfield 50, 3) := by decide +kernel
theorem dX4_isWord_21 : decode cX4_isWord 21 = .ok (.iaload, 1) := by decide +kernel
theorem dX4_isWord_22 : decode cX4_isWord 22 = .ok (.iload_n 1, 1) := by decide +kernel
theorem dX4_isWord_23 : decode cX4_isWord 23 = .ok (.if_icmp .ne 7, 3) := by decide +kernel
theorem dX4_isWord_26 : decode cX4_isWord 26 = .ok (.iconst 1, 1) := by decide +kernel
theorem dX4_isWord_27 : decode cX4_isWord 27 = .ok (.goto 4, 3) := by decide +kernel
theorem dX4_isWord_30 : decode cX4_isWord 30 = .ok (.iconst 0, 1) := by decide +kernel
theorem dX4_isWord_31 : decode cX4_isWord 31 = .ok (.ireturn, 1) := by decide +kernel
theorem dX4_isSign_0 : decode cX4_isSign 0 = .ok (.aload_n 0, 1) := by decide +kernel
theorem dX4_isSign_1 : decode cX4_isSign 1 = .ok (.getfield 28, 3) := by decide +kernel
theorem dX4_isSign_4 : decode cX4_isSign 4 = .ok (.aload_n 0, 1) := by decide +kernel
theorem dX4_isSign_5 : decode cX4_isSign 5 = .ok (.getfield 50, 3) := by decide +kernel
theorem dX4_isSign_8 : decode cX4_isSign 8 = .ok (.iaload, 1) := by decide +kernel
theorem dX4_isSign_9 : decode cX4_isSign 9 = .ok (.iconst 3, 1) := by decide +kernel
theorem dX4_isSign_10 : decode cX4_isSign 10 = .ok (.if_icmp .ne 20, 3) := by decide +kernel
theorem dX4_isSign_13 : decode cX4_isSign 13 = .ok (.aload_n 0, 1) := by decide +kernel
theorem dX4_isSign_14 : decode cX4_isSign 14 = .ok (.getfield 31, 3) := by decide +kernel
theorem dX4_isSign_17 : decode cX4_isSign 17 = .ok (.aload_n 0, 1) := by decide +kernel
theorem dX4_isSign_18 : decode cX4_isSign 18 = .ok (.getfield 50, 3) := by decide +kernel
theorem dX4_isSign_21 : decode cX4_isSign 21 = .ok (.iaload, 1) := by decide +kernel
theorem dX4_isSign_22 : decode cX4_isSign 22 = .ok (.iload_n 1, 1) := by decide +kernel
theorem dX4_isSign_23 : decode cX4_isSign 23 = .ok (.if_icmp .ne 7, 3) := by decide +kernel
theorem dX4_isSign_26 : decode cX4_isSign 26 = .ok (.iconst 1, 1) := by decide +kernel
theorem dX4_isSign_27 : decode cX4_isSign 27 = .ok (.goto 4, 3) := by decide +kernel
theorem dX4_isSign_30 : decode cX4_isSign 30 = .ok (.iconst 0, 1) := by decide +kernel
theorem dX4_isSign_31 : decode cX4_isSign 31 = .ok (.ireturn, 1) := by decide +kernel
theorem dX4_takeWord_0 : decode cX4_takeWord 0 = .ok (.aload_n 0, 1) := by decide +kernel
theorem dX4_takeWord_1 : decode cX4_takeWord 1 = .ok (.iload_n 1, 1) := by decide +kernel
theorem dX4_takeWord_2 : decode cX4_takeWord 2 = .ok (.invokevirtual 134, 3) := by decide +kernel
theorem dX4_takeWord_5 : decode cX4_takeWord 5 = .ok (.ifCond .ne 9, 3) := by decide +kernel
theorem dX4_takeWord_8 : decode cX4_takeWord 8 = .ok (.aload_n 0, 1) := by decide +kernel
theorem dX4_takeWord_9 : decode cX4_takeWord 9 = .ok (.iconst 1, 1) := by decide +kernel
theorem dX4_takeWord_10 : decode cX4_takeWord 10 = .ok (.invokevirtual 100, 3) := by decide +kernel
theorem dX4_takeWord_13 : decode cX4_takeWord 13 = .ok (.ireturn, 1) := by decide +kernel
theorem dX4_takeWord_14 : decode cX4_takeWord 14 = .ok (.aload_n 0, 1) := by decide +kernel
theorem dX4_takeWord_15 : decode cX4_takeWord 15 = .ok (.invokevirtual 125, 3) := by decide +kernel
theorem dX4_takeWord_18 : decode cX4_takeWord 18 = .ok (.iconst 1, 1) := by decide +kernel
theorem dX4_takeWord_19 : decode cX4_takeWord 19 = .ok (.ireturn, 1) := by decide +kernel
theorem dX4_takeSign_0 : decode cX4_takeSign 0 = .ok (.aload_n 0, 1) := by decide +kernel
theorem dX4_takeSign_1 : decode cX4_takeSign 1 = .ok (.iload_n 1, 1) := by decide +kernel
theorem dX4_takeSign_2 : decode cX4_takeSign 2 = .ok (.invokevirtual 156, 3) := by decide +kernel
theorem dX4_takeSign_5 : decode cX4_takeSign 5 = .ok (.ifCond .ne 9, 3) := by decide +kernel
theorem dX4_takeSign_8 : decode cX4_takeSign 8 = .ok (.aload_n 0, 1) := by decide +kernel
theorem dX4_takeSign_9 : decode cX4_takeSign 9 = .ok (.iconst 1, 1) := by decide +kernel
theorem dX4_takeSign_10 : decode cX4_takeSign 10 = .ok (.invokevirtual 100, 3) := by decide +kernel
theorem dX4_takeSign_13 : decode cX4_takeSign 13 = .ok (.ireturn, 1) := by decide +kernel
theorem dX4_takeSign_14 : decode cX4_takeSign 14 = .ok (.aload_n 0, 1) := by decide +kernel
theorem dX4_takeSign_15 : decode cX4_takeSign 15 = .ok (.invokevirtual 125, 3) := by decide +kernel
theorem dX4_takeSign_18 : decode cX4_takeSign 18 = .ok (.iconst 1, 1) := by decide +kernel
theorem dX4_takeSign_19 : decode cX4_takeSign 19 = .ok (.ireturn, 1) := by decide +kernel
theorem dX4_takeNumber_0 : decode cX4_takeNumber 0 = .ok (.aload_n 0, 1) := by decide +kernel
theorem dX4_takeNumber_1 : decode cX4_takeNumber 1 = .ok (.getfield 28, 3) := by decide +kernel
theorem dX4_takeNumber_4 : decode cX4_takeNumber 4 = .ok (.aload_n 0, 1) := by decide +kernel
theorem dX4_takeNumber_5 : decode cX4_takeNumber 5 = .ok (.getfield 50, 3) := by decide +kernel
theorem dX4_takeNumber_8 : decode cX4_takeNumber 8 = .ok (.iaload, 1) := by decide +kernel
theorem dX4_takeNumber_9 : decode cX4_takeNumber 9 = .ok (.iconst 2, 1) := by decide +kernel
theorem dX4_takeNumber_10 : decode cX4_takeNumber 10 = .ok (.if_icmp .eq 9, 3) := by decide +kernel
theorem dX4_takeNumber_13 : decode cX4_takeNumber 13 = .ok (.aload_n 0, 1) := by decide +kernel
theorem dX4_takeNumber_14 : decode cX4_takeNumber 14 = .ok (.iconst 1, 1) := by decide +kernel
theorem dX4_takeNumber_15 : decode cX4_takeNumber 15 = .ok (.invokevirtual 100, 3) := by decide +kernel
theorem dX4_takeNumber_18 : decode cX4_takeNumber 18 = .ok (.ireturn, 1) := by decide +kernel
theorem dX4_takeNumber_19 : decode cX4_takeNumber 19 = .ok (.aload_n 0, 1) := by decide +kernel
theorem dX4_takeNumber_20 : decode cX4_takeNumber 20 = .ok (.getfield 31, 3) := by decide +kernel
theorem dX4_takeNumber_23 : decode cX4_takeNumber 23 = .ok (.aload_n 0, 1) := by decide +kernel
theorem dX4_takeNumber_24 : decode cX4_takeNumber 24 = .ok (.getfield 50, 3) := by decide +kernel
theorem dX4_takeNumber_27 : decode cX4_takeNumber 27 = .ok (.iaload, 1) := by decide +kernel
theorem dX4_takeNumber_28 : decode cX4_takeNumber 28 = .ok (.iload_n 1, 1) := by decide +kernel
theorem dX4_takeNumber_29 : decode cX4_takeNumber 29 = .ok (.if_icmp .lt 16, 3) := by decide +kernel
theorem dX4_takeNumber_32 : decode cX4_takeNumber 32 = .ok (.aload_n 0, 1) := by decide +kernel
theorem dX4_takeNumber_33 : decode cX4_takeNumber 33 = .ok (.getfield 31, 3) := by decide +kernel
theorem dX4_takeNumber_36 : decode cX4_takeNumber 36 = .ok (.aload_n 0, 1) := by decide +kernel
theorem dX4_takeNumber_37 : decode cX4_takeNumber 37 = .ok (.getfield 50, 3) := by decide +kernel
theorem dX4_takeNumber_40 : decode cX4_takeNumber 40 = .ok (.iaload, 1) := by decide +kernel
theorem dX4_takeNumber_41 : decode cX4_takeNumber 41 = .ok (.iload_n 2, 1) := by decide +kernel
theorem dX4_takeNumber_42 : decode cX4_takeNumber 42 = .ok (.if_icmp .le 9, 3) := by decide +kernel
theorem dX4_takeNumber_45 : decode cX4_takeNumber 45 = .ok (.aload_n 0, 1) := by decide +kernel
theorem dX4_takeNumber_46 : decode cX4_takeNumber 46 = .ok (.iconst 2, 1) := by decide +kernel
theorem dX4_takeNumber_47 : decode cX4_takeNumber 47 = .ok (.invokevirtual 100, 3) := by decide +kernel
theorem dX4_takeNumber_50 : decode cX4_takeNumber 50 = .ok (.ireturn, 1) := by decide +kernel
theorem dX4_takeNumber_51 : decode cX4_takeNumber 51 = .ok (.aload_n 0, 1) := by decide +kernel
theorem dX4_takeNumber_52 : decode cX4_takeNumber 52 = .ok (.getfield 16, 3) := by decide +kernel
theorem dX4_takeNumber_55 : decode cX4_takeNumber 55 = .ok (.aload_n 0, 1) := by decide +kernel
theorem dX4_takeNumber_56 : decode cX4_takeNumber 56 = .ok (.getfield 31, 3) := by decide +kernel
theorem dX4_takeNumber_59 : decode cX4_takeNumber 59 = .ok (.aload_n 0, 1) := by decide +kernel
theorem dX4_takeNumber_60 : decode cX4_takeNumber 60 = .ok (.getfield 50, 3) := by decide +kernel
theorem dX4_takeNumber_63 : decode cX4_takeNumber 63 = .ok (.iaload, 1) := by decide +kernel
theorem dX4_takeNumber_64 : decode cX4_takeNumber 64 = .ok (.invokevirtual 122, 3) := by decide +kernel
theorem dX4_takeNumber_67 : decode cX4_takeNumber 67 = .ok (.aload_n 0, 1) := by decide +kernel
theorem dX4_takeNumber_68 : decode cX4_takeNumber 68 = .ok (.invokevirtual 125, 3) := by decide +kernel
theorem dX4_takeNumber_71 : decode cX4_takeNumber 71 = .ok (.iconst 1, 1) := by decide +kernel
theorem dX4_takeNumber_72 : decode cX4_takeNumber 72 = .ok (.ireturn, 1) := by decide +kernel
theorem dX4_refuse_0 : decode cX4_refuse 0 = .ok (.aload_n 0, 1) := by decide +kernel
theorem dX4_refuse_1 : decode cX4_refuse 1 = .ok (.iload_n 1, 1) := by decide +kernel
theorem dX4_refuse_2 : decode cX4_refuse 2 = .ok (.putfield 44, 3) := by decide +kernel
theorem dX4_refuse_5 : decode cX4_refuse 5 = .ok (.aload_n 0, 1) := by decide +kernel
theorem dX4_refuse_6 : decode cX4_refuse 6 = .ok (.aload_n 0, 1) := by decide +kernel
theorem dX4_refuse_7 : decode cX4_refuse 7 = .ok (.getfield 34, 3) := by decide +kernel
theorem dX4_refuse_10 : decode cX4_refuse 10 = .ok (.aload_n 0, 1) := by decide +kernel
theorem dX4_refuse_11 : decode cX4_refuse 11 = .ok (.getfield 50, 3) := by decide +kernel
theorem dX4_refuse_14 : decode cX4_refuse 14 = .ok (.iaload, 1) := by decide +kernel
theorem dX4_refuse_15 : decode cX4_refuse 15 = .ok (.putfield 20, 3) := by decide +kernel
theorem dX4_refuse_18 : decode cX4_refuse 18 = .ok (.iconst 0, 1) := by decide +kernel
theorem dX4_refuse_19 : decode cX4_refuse 19 = .ok (.ireturn, 1) := by decide +kernel
theorem dX5_init_0 : decode cX5_init 0 = .ok (.aload_n 0, 1) := by decide +kernel
theorem dX5_init_1 : decode cX5_init 1 = .ok (.invokespecial 1, 3) := by decide +kernel
theorem dX5_init_4 : decode cX5_init 4 = .ok (.aload_n 0, 1) := by decide +kernel
theorem dX5_init_5 : decode cX5_init 5 = .ok (.iload_n 1, 1) := by decide +kernel
theorem dX5_init_6 : decode cX5_init 6 = .ok (.newarray .int, 2) := by decide +kernel
theorem dX5_init_8 : decode cX5_init 8 = .ok (.putfield 7, 3) := by decide +kernel
theorem dX5_init_11 : decode cX5_init 11 = .ok (.aload_n 0, 1) := by decide +kernel
theorem dX5_init_12 : decode cX5_init 12 = .ok (.iload_n 2, 1) := by decide +kernel
theorem dX5_init_13 : decode cX5_init 13 = .ok (.newarray .int, 2) := by decide +kernel
theorem dX5_init_15 : decode cX5_init 15 = .ok (.putfield 13, 3) := by decide +kernel
theorem dX5_init_18 : decode cX5_init 18 = .ok (.return_, 1) := by decide +kernel
theorem dX5_clear_0 : decode cX5_clear 0 = .ok (.aload_n 0, 1) := by decide +kernel
theorem dX5_clear_1 : decode cX5_clear 1 = .ok (.iconst 0, 1) := by decide +kernel
theorem dX5_clear_2 : decode cX5_clear 2 = .ok (.putfield 16, 3) := by decide +kernel
theorem dX5_clear_5 : decode cX5_clear 5 = .ok (.aload_n 0, 1) := by decide +kernel
theorem dX5_clear_6 : decode cX5_clear 6 = .ok (.iload_n 1, 1) := by decide +kernel
theorem dX5_clear_7 : decode cX5_clear 7 = .ok (.putfield 20, 3) := by decide +kernel
theorem dX5_clear_10 : decode cX5_clear 10 = .ok (.aload_n 0, 1) := by decide +kernel
theorem dX5_clear_11 : decode cX5_clear 11 = .ok (.iconst 0, 1) := by decide +kernel
theorem dX5_clear_12 : decode cX5_clear 12 = .ok (.putfield 23, 3) := by decide +kernel
theorem dX5_clear_15 : decode cX5_clear 15 = .ok (.aload_n 0, 1) := by decide +kernel
theorem dX5_clear_16 : decode cX5_clear 16 = .ok (.iconst 0, 1) := by decide +kernel
theorem dX5_clear_17 : decode cX5_clear 17 = .ok (.putfield 26, 3) := by decide +kernel
theorem dX5_clear_20 : decode cX5_clear 20 = .ok (.return_, 1) := by decide +kernel
theorem dX5_copyFrom_0 : decode cX5_copyFrom 0 = .ok (.aload_n 0, 1) := by decide +kernel
theorem dX5_copyFrom_1 : decode cX5_copyFrom 1 = .ok (.aload_n 1, 1) := by decide +kernel
theorem dX5_copyFrom_2 : decode cX5_copyFrom 2 = .ok (.getfield 16, 3) := by decide +kernel
theorem dX5_copyFrom_5 : decode cX5_copyFrom 5 = .ok (.putfield 16, 3) := by decide +kernel
theorem dX5_copyFrom_8 : decode cX5_copyFrom 8 = .ok (.aload_n 0, 1) := by decide +kernel
theorem dX5_copyFrom_9 : decode cX5_copyFrom 9 = .ok (.aload_n 1, 1) := by decide +kernel
theorem dX5_copyFrom_10 : decode cX5_copyFrom 10 = .ok (.getfield 20, 3) := by decide +kernel
theorem dX5_copyFrom_13 : decode cX5_copyFrom 13 = .ok (.putfield 20, 3) := by decide +kernel
theorem dX5_copyFrom_16 : decode cX5_copyFrom 16 = .ok (.aload_n 0, 1) := by decide +kernel
theorem dX5_copyFrom_17 : decode cX5_copyFrom 17 = .ok (.aload_n 1, 1) := by decide +kernel
theorem dX5_copyFrom_18 : decode cX5_copyFrom 18 = .ok (.getfield 23, 3) := by decide +kernel
theorem dX5_copyFrom_21 : decode cX5_copyFrom 21 = .ok (.aload_n 0, 1) := by decide +kernel
theorem dX5_copyFrom_22 : decode cX5_copyFrom 22 = .ok (.getfield 7, 3) := by decide +kernel
theorem dX5_copyFrom_25 : decode cX5_copyFrom 25 = .ok (.arraylength, 1) := by decide +kernel
theorem dX5_copyFrom_26 : decode cX5_copyFrom 26 = .ok (.invokestatic 29, 3) := by decide +kernel
theorem dX5_copyFrom_29 : decode cX5_copyFrom 29 = .ok (.putfield 23, 3) := by decide +kernel
theorem dX5_copyFrom_32 : decode cX5_copyFrom 32 = .ok (.aload_n 0, 1) := by decide +kernel
theorem dX5_copyFrom_33 : decode cX5_copyFrom 33 = .ok (.aload_n 1, 1) := by decide +kernel
theorem dX5_copyFrom_34 : decode cX5_copyFrom 34 = .ok (.getfield 26, 3) := by decide +kernel
theorem dX5_copyFrom_37 : decode cX5_copyFrom 37 = .ok (.aload_n 0, 1) := by decide +kernel
theorem dX5_copyFrom_38 : decode cX5_copyFrom 38 = .ok (.getfield 13, 3) := by decide +kernel
theorem dX5_copyFrom_41 : decode cX5_copyFrom 41 = .ok (.arraylength, 1) := by decide +kernel
theorem dX5_copyFrom_42 : decode cX5_copyFrom 42 = .ok (.invokestatic 29, 3) := by decide +kernel
theorem dX5_copyFrom_45 : decode cX5_copyFrom 45 = .ok (.putfield 26, 3) := by decide +kernel
theorem dX5_copyFrom_48 : decode cX5_copyFrom 48 = .ok (.aload_n 1, 1) := by decide +kernel
theorem dX5_copyFrom_49 : decode cX5_copyFrom 49 = .ok (.getfield 7, 3) := by decide +kernel
theorem dX5_copyFrom_52 : decode cX5_copyFrom 52 = .ok (.iconst 0, 1) := by decide +kernel
theorem dX5_copyFrom_53 : decode cX5_copyFrom 53 = .ok (.aload_n 0, 1) := by decide +kernel
theorem dX5_copyFrom_54 : decode cX5_copyFrom 54 = .ok (.getfield 7, 3) := by decide +kernel
theorem dX5_copyFrom_57 : decode cX5_copyFrom 57 = .ok (.iconst 0, 1) := by decide +kernel
theorem dX5_copyFrom_58 : decode cX5_copyFrom 58 = .ok (.aload_n 0, 1) := by decide +kernel
theorem dX5_copyFrom_59 : decode cX5_copyFrom 59 = .ok (.getfield 23, 3) := by decide +kernel
theorem dX5_copyFrom_62 : decode cX5_copyFrom 62 = .ok (.invokestatic 35, 3) := by decide +kernel
theorem dX5_copyFrom_65 : decode cX5_copyFrom 65 = .ok (.aload_n 1, 1) := by decide +kernel
theorem dX5_copyFrom_66 : decode cX5_copyFrom 66 = .ok (.getfield 13, 3) := by decide +kernel
theorem dX5_copyFrom_69 : decode cX5_copyFrom 69 = .ok (.iconst 0, 1) := by decide +kernel
theorem dX5_copyFrom_70 : decode cX5_copyFrom 70 = .ok (.aload_n 0, 1) := by decide +kernel
theorem dX5_copyFrom_71 : decode cX5_copyFrom 71 = .ok (.getfield 13, 3) := by decide +kernel
theorem dX5_copyFrom_74 : decode cX5_copyFrom 74 = .ok (.iconst 0, 1) := by decide +kernel
theorem dX5_copyFrom_75 : decode cX5_copyFrom 75 = .ok (.aload_n 0, 1) := by decide +kernel
theorem dX5_copyFrom_76 : decode cX5_copyFrom 76 = .ok (.getfield 26, 3) := by decide +kernel
theorem dX5_copyFrom_79 : decode cX5_copyFrom 79 = .ok (.invokestatic 35, 3) := by decide +kernel
theorem dX5_copyFrom_82 : decode cX5_copyFrom 82 = .ok (.return_, 1) := by decide +kernel
theorem dX5_cell_0 : decode cX5_cell 0 = .ok (.iload_n 1, 1) := by decide +kernel
theorem dX5_cell_1 : decode cX5_cell 1 = .ok (.aload_n 0, 1) := by decide +kernel
theorem dX5_cell_2 : decode cX5_cell 2 = .ok (.getfield 20, 3) := by decide +kernel
theorem dX5_cell_5 : decode cX5_cell 5 = .ok (.imul, 1) := by decide +kernel
theorem dX5_cell_6 : decode cX5_cell 6 = .ok (.iload_n 2, 1) := by decide +kernel
theorem dX5_cell_7 : decode cX5_cell 7 = .ok (.iadd, 1) := by decide +kernel
theorem dX5_cell_8 : decode cX5_cell 8 = .ok (.istore_n 3, 1) := by decide +kernel
theorem dX5_cell_9 : decode cX5_cell 9 = .ok (.iload_n 3, 1) := by decide +kernel
theorem dX5_cell_10 : decode cX5_cell 10 = .ok (.ifCond .lt 20, 3) := by decide +kernel
theorem dX5_cell_13 : decode cX5_cell 13 = .ok (.iload_n 3, 1) := by decide +kernel
theorem dX5_cell_14 : decode cX5_cell 14 = .ok (.aload_n 0, 1) := by decide +kernel
theorem dX5_cell_15 : decode cX5_cell 15 = .ok (.getfield 23, 3) := by decide +kernel
theorem dX5_cell_18 : decode cX5_cell 18 = .ok (.if_icmp .ge 12, 3) := by decide +kernel
theorem dX5_cell_21 : decode cX5_cell 21 = .ok (.aload_n 0, 1) := by decide +kernel
theorem dX5_cell_22 : decode cX5_cell 22 = .ok (.getfield 7, 3) := by decide +kernel
theorem dX5_cell_25 : decode cX5_cell 25 = .ok (.iload_n 3, 1) := by decide +kernel
theorem dX5_cell_26 : decode cX5_cell 26 = .ok (.iaload, 1) := by decide +kernel
theorem dX5_cell_27 : decode cX5_cell 27 = .ok (.goto 4, 3) := by decide +kernel
theorem dX5_cell_30 : decode cX5_cell 30 = .ok (.iconst 0, 1) := by decide +kernel
theorem dX5_cell_31 : decode cX5_cell 31 = .ok (.ireturn, 1) := by decide +kernel
theorem dX5_put_0 : decode cX5_put 0 = .ok (.aload_n 0, 1) := by decide +kernel
theorem dX5_put_1 : decode cX5_put 1 = .ok (.getfield 23, 3) := by decide +kernel
theorem dX5_put_4 : decode cX5_put 4 = .ok (.aload_n 0, 1) := by decide +kernel
theorem dX5_put_5 : decode cX5_put 5 = .ok (.getfield 7, 3) := by decide +kernel
theorem dX5_put_8 : decode cX5_put 8 = .ok (.arraylength, 1) := by decide +kernel
theorem dX5_put_9 : decode cX5_put 9 = .ok (.if_icmp .ge 23, 3) := by decide +kernel
theorem dX5_put_12 : decode cX5_put 12 = .ok (.aload_n 0, 1) := by decide +kernel
theorem dX5_put_13 : decode cX5_put 13 = .ok (.getfield 7, 3) := by decide +kernel
theorem dX5_put_16 : decode cX5_put 16 = .ok (.aload_n 0, 1) := by decide +kernel
theorem dX5_put_17 : decode cX5_put 17 = .ok (.getfield 23, 3) := by decide +kernel
theorem dX5_put_20 : decode cX5_put 20 = .ok (.iload_n 1, 1) := by decide +kernel
theorem dX5_put_21 : decode cX5_put 21 = .ok (.iastore, 1) := by decide +kernel
theorem dX5_put_22 : decode cX5_put 22 = .ok (.aload_n 0, 1) := by decide +kernel
theorem dX5_put_23 : decode cX5_put 23 = .ok (.dup, 1) := by decide +kernel
theorem dX5_put_24 : decode cX5_put 24 = .ok (.getfield 23, 3) := by decide +kernel
theorem dX5_put_27 : decode cX5_put 27 = .ok (.iconst 1, 1) := by decide +kernel
theorem dX5_put_28 : decode cX5_put 28 = .ok (.iadd, 1) := by decide +kernel
theorem dX5_put_29 : decode cX5_put 29 = .ok (.putfield 23, 3) := by decide +kernel
theorem dX5_put_32 : decode cX5_put 32 = .ok (.return_, 1) := by decide +kernel
theorem dX5_emit_0 : decode cX5_emit 0 = .ok (.aload_n 0, 1) := by decide +kernel
theorem dX5_emit_1 : decode cX5_emit 1 = .ok (.getfield 26, 3) := by decide +kernel
theorem dX5_emit_4 : decode cX5_emit 4 = .ok (.aload_n 0, 1) := by decide +kernel
theorem dX5_emit_5 : decode cX5_emit 5 = .ok (.getfield 13, 3) := by decide +kernel
theorem dX5_emit_8 : decode cX5_emit 8 = .ok (.arraylength, 1) := by decide +kernel
theorem dX5_emit_9 : decode cX5_emit 9 = .ok (.if_icmp .ge 23, 3) := by decide +kernel
theorem dX5_emit_12 : decode cX5_emit 12 = .ok (.aload_n 0, 1) := by decide +kernel
theorem dX5_emit_13 : decode cX5_emit 13 = .ok (.getfield 13, 3) := by decide +kernel
theorem dX5_emit_16 : decode cX5_emit 16 = .ok (.aload_n 0, 1) := by decide +kernel
theorem dX5_emit_17 : decode cX5_emit 17 = .ok (.getfield 26, 3) := by decide +kernel
theorem dX5_emit_20 : decode cX5_emit 20 = .ok (.iload_n 1, 1) := by decide +kernel
theorem dX5_emit_21 : decode cX5_emit 21 = .ok (.iastore, 1) := by decide +kernel
theorem dX5_emit_22 : decode cX5_emit 22 = .ok (.aload_n 0, 1) := by decide +kernel
theorem dX5_emit_23 : decode cX5_emit 23 = .ok (.dup, 1) := by decide +kernel
theorem dX5_emit_24 : decode cX5_emit 24 = .ok (.getfield 26, 3) := by decide +kernel
theorem dX5_emit_27 : decode cX5_emit 27 = .ok (.iconst 1, 1) := by decide +kernel
theorem dX5_emit_28 : decode cX5_emit 28 = .ok (.iadd, 1) := by decide +kernel
theorem dX5_emit_29 : decode cX5_emit 29 = .ok (.putfield 26, 3) := by decide +kernel
theorem dX5_emit_32 : decode cX5_emit 32 = .ok (.return_, 1) := by decide +kernel
theorem dX6_init_0 : decode cX6_init 0 = .ok (.aload_n 0, 1) := by decide +kernel
theorem dX6_init_1 : decode cX6_init 1 = .ok (.invokespecial 3, 3) := by decide +kernel
theorem dX6_init_4 : decode cX6_init 4 = .ok (.aload_n 0, 1) := by decide +kernel
theorem dX6_init_5 : decode cX6_init 5 = .ok (.iconst 2, 1) := by decide +kernel
theorem dX6_init_6 : decode cX6_init 6 = .ok (.newarray .int, 2) := by decide +kernel
theorem dX6_init_8 : decode cX6_init 8 = .ok (.dup, 1) := by decide +kernel
theorem dX6_init_9 : decode cX6_init 9 = .ok (.iconst 0, 1) := by decide +kernel
theorem dX6_init_10 : decode cX6_init 10 = .ok (.bipush 10, 2) := by decide +kernel
theorem dX6_init_12 : decode cX6_init 12 = .ok (.iastore, 1) := by decide +kernel
theorem dX6_init_13 : decode cX6_init 13 = .ok (.dup, 1) := by decide +kernel
theorem dX6_init_14 : decode cX6_init 14 = .ok (.iconst 1, 1) := by decide +kernel
theorem dX6_init_15 : decode cX6_init 15 = .ok (.bipush 10, 2) := by decide +kernel
theorem dX6_init_17 : decode cX6_init 17 = .ok (.iastore, 1) := by decide +kernel
theorem dX6_init_18 : decode cX6_init 18 = .ok (.putfield 9, 3) := by decide +kernel
theorem dX6_init_21 : decode cX6_init 21 = .ok (.aload_n 0, 1) := by decide +kernel
theorem dX6_init_22 : decode cX6_init 22 = .ok (.iconst 2, 1) := by decide +kernel
theorem dX6_init_23 : decode cX6_init 23 = .ok (.newarray .int, 2) := by decide +kernel
theorem dX6_init_25 : decode cX6_init 25 = .ok (.putfield 15, 3) := by decide +kernel
theorem dX6_init_28 : decode cX6_init 28 = .ok (.aload_n 0, 1) := by decide +kernel
theorem dX6_init_29 : decode cX6_init 29 = .ok (.iconst 2, 1) := by decide +kernel
theorem dX6_init_30 : decode cX6_init 30 = .ok (.newarray .int, 2) := by decide +kernel
theorem dX6_init_32 : decode cX6_init 32 = .ok (.dup, 1) := by decide +kernel
theorem dX6_init_33 : decode cX6_init 33 = .ok (.iconst 0, 1) := by decide +kernel
theorem dX6_init_34 : decode cX6_init 34 = .ok (.iconst 1, 1) := by decide +kernel
theorem dX6_init_35 : decode cX6_init 35 = .ok (.iastore, 1) := by decide +kernel
theorem dX6_init_36 : decode cX6_init 36 = .ok (.dup, 1) := by decide +kernel
theorem dX6_init_37 : decode cX6_init 37 = .ok (.iconst 1, 1) := by decide +kernel
theorem dX6_init_38 : decode cX6_init 38 = .ok (.iconst 1, 1) := by decide +kernel
theorem dX6_init_39 : decode cX6_init 39 = .ok (.iastore, 1) := by decide +kernel
theorem dX6_init_40 : decode cX6_init 40 = .ok (.putfield 18, 3) := by decide +kernel
theorem dX6_init_43 : decode cX6_init 43 = .ok (.aload_n 0, 1) := by decide +kernel
theorem dX6_init_44 : decode cX6_init 44 = .ok (.bipush 60, 2) := by decide +kernel
theorem dX6_init_46 : decode cX6_init 46 = .ok (.newarray .int, 2) := by decide +kernel
theorem dX6_init_48 : decode cX6_init 48 = .ok (.putfield 21, 3) := by decide +kernel
theorem dX6_init_51 : decode cX6_init 51 = .ok (.aload_n 0, 1) := by decide +kernel
theorem dX6_init_52 : decode cX6_init 52 = .ok (.bipush 60, 2) := by decide +kernel
theorem dX6_init_54 : decode cX6_init 54 = .ok (.newarray .int, 2) := by decide +kernel
theorem dX6_init_56 : decode cX6_init 56 = .ok (.putfield 24, 3) := by decide +kernel
theorem dX6_init_59 : decode cX6_init 59 = .ok (.aload_n 0, 1) := by decide +kernel
theorem dX6_init_60 : decode cX6_init 60 = .ok (.bipush 60, 2) := by decide +kernel
theorem dX6_init_62 : decode cX6_init 62 = .ok (.newarray .int, 2) := by decide +kernel
theorem dX6_init_64 : decode cX6_init 64 = .ok (.putfield 27, 3) := by decide +kernel
theorem dX6_init_67 : decode cX6_init 67 = .ok (.aload_n 0, 1) := by decide +kernel
theorem dX6_init_68 : decode cX6_init 68 = .ok (.bipush 60, 2) := by decide +kernel
theorem dX6_init_70 : decode cX6_init 70 = .ok (.newarray .int, 2) := by decide +kernel
theorem dX6_init_72 : decode cX6_init 72 = .ok (.putfield 30, 3) := by decide +kernel
theorem dX6_init_75 : decode cX6_init 75 = .ok (.aload_n 0, 1) := by decide +kernel
theorem dX6_init_76 : decode cX6_init 76 = .ok (.bipush 60, 2) := by decide +kernel
theorem dX6_init_78 : decode cX6_init 78 = .ok (.newarray .int, 2) := by decide +kernel
theorem dX6_init_80 : decode cX6_init 80 = .ok (.putfield 33, 3) := by decide +kernel
theorem dX6_init_83 : decode cX6_init 83 = .ok (.aload_n 0, 1) := by decide +kernel
theorem dX6_init_84 : decode cX6_init 84 = .ok (.bipush 60, 2) := by decide +kernel
theorem dX6_init_86 : decode cX6_init 86 = .ok (.newarray .int, 2) := by decide +kernel
theorem dX6_init_88 : decode cX6_init 88 = .ok (.putfield 36, 3) := by decide +kernel
theorem dX6_init_91 : decode cX6_init 91 = .ok (.aload_n 0, 1) := by decide +kernel
theorem dX6_init_92 : decode cX6_init 92 = .ok (.bipush 60, 2) := by decide +kernel
theorem dX6_init_94 : decode cX6_init 94 = .ok (.newarray .int, 2) := by decide +kernel
theorem dX6_init_96 : decode cX6_init 96 = .ok (.putfield 39, 3) := by decide +kernel
theorem dX6_init_99 : decode cX6_init 99 = .ok (.aload_n 0, 1) := by decide +kernel
theorem dX6_init_100 : decode cX6_init 100 = .ok (.bipush 60, 2) := by decide +kernel
theorem dX6_init_102 : decode cX6_init 102 = .ok (.newarray .int, 2) := by decide +kernel
theorem dX6_init_104 : decode cX6_init 104 = .ok (.putfield 42, 3) := by decide +kernel
theorem dX6_init_107 : decode cX6_init 107 = .ok (.aload_n 0, 1) := by decide +kernel
theorem dX6_init_108 : decode cX6_init 108 = .ok (.bipush 60, 2) := by decide +kernel
theorem dX6_init_110 : decode cX6_init 110 = .ok (.newarray .int, 2) := by decide +kernel
theorem dX6_init_112 : decode cX6_init 112 = .ok (.putfield 45, 3) := by decide +kernel
theorem dX6_init_115 : decode cX6_init 115 = .ok (.return_, 1) := by decide +kernel
theorem dX6_copyFrom_0 : decode cX6_copyFrom 0 = .ok (.aload_n 0, 1) := by decide +kernel
theorem dX6_copyFrom_1 : decode cX6_copyFrom 1 = .ok (.aload_n 1, 1) := by decide +kernel
theorem dX6_copyFrom_2 : decode cX6_copyFrom 2 = .ok (.getfield 48, 3) := by decide +kernel
theorem dX6_copyFrom_5 : decode cX6_copyFrom 5 = .ok (.putfield 48, 3) := by decide +kernel
theorem dX6_copyFrom_8 : decode cX6_copyFrom 8 = .ok (.aload_n 0, 1) := by decide +kernel
theorem dX6_copyFrom_9 : decode cX6_copyFrom 9 = .ok (.aload_n 1, 1) := by decide +kernel
theorem dX6_copyFrom_10 : decode cX6_copyFrom 10 = .ok (.getfield 52, 3) := by decide +kernel
theorem dX6_copyFrom_13 : decode cX6_copyFrom 13 = .ok (.putfield 52, 3) := by decide +kernel
theorem dX6_copyFrom_16 : decode cX6_copyFrom 16 = .ok (.aload_n 0, 1) := by decide +kernel
theorem dX6_copyFrom_17 : decode cX6_copyFrom 17 = .ok (.aload_n 1, 1) := by decide +kernel
theorem dX6_copyFrom_18 : decode cX6_copyFrom 18 = .ok (.getfield 55, 3) := by decide +kernel
theorem dX6_copyFrom_21 : decode cX6_copyFrom 21 = .ok (.putfield 55, 3) := by decide +kernel
theorem dX6_copyFrom_24 : decode cX6_copyFrom 24 = .ok (.aload_n 0, 1) := by decide +kernel
theorem dX6_copyFrom_25 : decode cX6_copyFrom 25 = .ok (.aload_n 1, 1) := by decide +kernel
theorem dX6_copyFrom_26 : decode cX6_copyFrom 26 = .ok (.getfield 58, 3) := by decide +kernel
theorem dX6_copyFrom_29 : decode cX6_copyFrom 29 = .ok (.putfield 58, 3) := by decide +kernel
theorem dX6_copyFrom_32 : decode cX6_copyFrom 32 = .ok (.aload_n 0, 1) := by decide +kernel
theorem dX6_copyFrom_33 : decode cX6_copyFrom 33 = .ok (.aload_n 1, 1) := by decide +kernel
theorem dX6_copyFrom_34 : decode cX6_copyFrom 34 = .ok (.getfield 61, 3) := by decide +kernel
theorem dX6_copyFrom_37 : decode cX6_copyFrom 37 = .ok (.putfield 61, 3) := by decide +kernel
theorem dX6_copyFrom_40 : decode cX6_copyFrom 40 = .ok (.aload_n 0, 1) := by decide +kernel
theorem dX6_copyFrom_41 : decode cX6_copyFrom 41 = .ok (.aload_n 1, 1) := by decide +kernel
theorem dX6_copyFrom_42 : decode cX6_copyFrom 42 = .ok (.getfield 64, 3) := by decide +kernel
theorem dX6_copyFrom_45 : decode cX6_copyFrom 45 = .ok (.putfield 64, 3) := by decide +kernel
theorem dX6_copyFrom_48 : decode cX6_copyFrom 48 = .ok (.iconst 0, 1) := by decide +kernel
theorem dX6_copyFrom_49 : decode cX6_copyFrom 49 = .ok (.istore_n 2, 1) := by decide +kernel
theorem dX6_copyFrom_50 : decode cX6_copyFrom 50 = .ok (.iload_n 2, 1) := by decide +kernel
theorem dX6_copyFrom_51 : decode cX6_copyFrom 51 = .ok (.iconst 2, 1) := by decide +kernel
theorem dX6_copyFrom_52 : decode cX6_copyFrom 52 = .ok (.if_icmp .ge 45, 3) := by decide +kernel
theorem dX6_copyFrom_55 : decode cX6_copyFrom 55 = .ok (.aload_n 0, 1) := by decide +kernel
theorem dX6_copyFrom_56 : decode cX6_copyFrom 56 = .ok (.getfield 9, 3) := by decide +kernel
theorem dX6_copyFrom_59 : decode cX6_copyFrom 59 = .ok (.iload_n 2, 1) := by decide +kernel
theorem dX6_copyFrom_60 : decode cX6_copyFrom 60 = .ok (.aload_n 1, 1) := by decide +kernel
theorem dX6_copyFrom_61 : decode cX6_copyFrom 61 = .ok (.getfield 9, 3) := by decide +kernel
theorem dX6_copyFrom_64 : decode cX6_copyFrom 64 = .ok (.iload_n 2, 1) := by decide +kernel
theorem dX6_copyFrom_65 : decode cX6_copyFrom 65 = .ok (.iaload, 1) := by decide +kernel
theorem dX6_copyFrom_66 : decode cX6_copyFrom 66 = .ok (.iastore, 1) := by decide +kernel
theorem dX6_copyFrom_67 : decode cX6_copyFrom 67 = .ok (.aload_n 0, 1) := by decide +kernel
theorem dX6_copyFrom_68 : decode cX6_copyFrom 68 = .ok (.getfield 15, 3) := by decide +kernel
theorem dX6_copyFrom_71 : decode cX6_copyFrom 71 = .ok (.iload_n 2, 1) := by decide +kernel
theorem dX6_copyFrom_72 : decode cX6_copyFrom 72 = .ok (.aload_n 1, 1) := by decide +kernel
theorem dX6_copyFrom_73 : decode cX6_copyFrom 73 = .ok (.getfield 15, 3) := by decide +kernel
theorem dX6_copyFrom_76 : decode cX6_copyFrom 76 = .ok (.iload_n 2, 1) := by decide +kernel
theorem dX6_copyFrom_77 : decode cX6_copyFrom 77 = .ok (.iaload, 1) := by decide +kernel
theorem dX6_copyFrom_78 : decode cX6_copyFrom 78 = .ok (.iastore, 1) := by decide +kernel
theorem dX6_copyFrom_79 : decode cX6_copyFrom 79 = .ok (.aload_n 0, 1) := by decide +kernel
theorem dX6_copyFrom_80 : decode cX6_copyFrom 80 = .ok (.getfield 18, 3) := by decide +kernel
theorem dX6_copyFrom_83 : decode cX6_copyFrom 83 = .ok (.iload_n 2, 1) := by decide +kernel
theorem dX6_copyFrom_84 : decode cX6_copyFrom 84 = .ok (.aload_n 1, 1) := by decide +kernel
theorem dX6_copyFrom_85 : decode cX6_copyFrom 85 = .ok (.getfield 18, 3) := by decide +kernel
theorem dX6_copyFrom_88 : decode cX6_copyFrom 88 = .ok (.iload_n 2, 1) := by decide +kernel
theorem dX6_copyFrom_89 : decode cX6_copyFrom 89 = .ok (.iaload, 1) := by decide +kernel
theorem dX6_copyFrom_90 : decode cX6_copyFrom 90 = .ok (.iastore, 1) := by decide +kernel
theorem dX6_copyFrom_91 : decode cX6_copyFrom 91 = .ok (.iinc 2 1, 3) := by decide +kernel
theorem dX6_copyFrom_94 : decode cX6_copyFrom 94 = .ok (.goto (-44), 3) := by decide +kernel
theorem dX6_copyFrom_97 : decode cX6_copyFrom 97 = .ok (.aload_n 1, 1) := by decide +kernel
theorem dX6_copyFrom_98 : decode cX6_copyFrom 98 = .ok (.getfield 21, 3) := by decide +kernel
theorem dX6_copyFrom_101 : decode cX6_copyFrom 101 = .ok (.iconst 0, 1) := by decide +kernel
theorem dX6_copyFrom_102 : decode cX6_copyFrom 102 = .ok (.aload_n 0, 1) := by decide +kernel
theorem dX6_copyFrom_103 : decode cX6_copyFrom 103 = .ok (.getfield 21, 3) := by decide +kernel
theorem dX6_copyFrom_106 : decode cX6_copyFrom 106 = .ok (.iconst 0, 1) := by decide +kernel
theorem dX6_copyFrom_107 : decode cX6_copyFrom 107 = .ok (.aload_n 0, 1) := by decide +kernel
theorem dX6_copyFrom_108 : decode cX6_copyFrom 108 = .ok (.getfield 55, 3) := by decide +kernel
theorem dX6_copyFrom_111 : decode cX6_copyFrom 111 = .ok (.invokestatic 67, 3) := by decide +kernel
theorem dX6_copyFrom_114 : decode cX6_copyFrom 114 = .ok (.aload_n 1, 1) := by decide +kernel
theorem dX6_copyFrom_115 : decode cX6_copyFrom 115 = .ok (.getfield 24, 3) := by decide +kernel
theorem dX6_copyFrom_118 : decode cX6_copyFrom 118 = .ok (.iconst 0, 1) := by decide +kernel
theorem dX6_copyFrom_119 : decode cX6_copyFrom 119 = .ok (.aload_n 0, 1) := by decide +kernel
theorem dX6_copyFrom_120 : decode cX6_copyFrom 120 = .ok (.getfield 24, 3) := by decide +kernel
theorem dX6_copyFrom_123 : decode cX6_copyFrom 123 = .ok (.iconst 0, 1) := by decide +kernel
theorem dX6_copyFrom_124 : decode cX6_copyFrom 124 = .ok (.aload_n 0, 1) := by decide +kernel
theorem dX6_copyFrom_125 : decode cX6_copyFrom 125 = .ok (.getfield 55, 3) := by decide +kernel
theorem dX6_copyFrom_128 : decode cX6_copyFrom 128 = .ok (.invokestatic 67, 3) := by decide +kernel
theorem dX6_copyFrom_131 : decode cX6_copyFrom 131 = .ok (.aload_n 1, 1) := by decide +kernel
theorem dX6_copyFrom_132 : decode cX6_copyFrom 132 = .ok (.getfield 27, 3) := by decide +kernel
theorem dX6_copyFrom_135 : decode cX6_copyFrom 135 = .ok (.iconst 0, 1) := by decide +kernel
theorem dX6_copyFrom_136 : decode cX6_copyFrom 136 = .ok (.aload_n 0, 1) := by decide +kernel
theorem dX6_copyFrom_137 : decode cX6_copyFrom 137 = .ok (.getfield 27, 3) := by decide +kernel
theorem dX6_copyFrom_140 : decode cX6_copyFrom 140 = .ok (.iconst 0, 1) := by decide +kernel
theorem dX6_copyFrom_141 : decode cX6_copyFrom 141 = .ok (.aload_n 0, 1) := by decide +kernel
theorem dX6_copyFrom_142 : decode cX6_copyFrom 142 = .ok (.getfield 55, 3) := by decide +kernel
theorem dX6_copyFrom_145 : decode cX6_copyFrom 145 = .ok (.invokestatic 67, 3) := by decide +kernel
theorem dX6_copyFrom_148 : decode cX6_copyFrom 148 = .ok (.aload_n 1, 1) := by decide +kernel
theorem dX6_copyFrom_149 : decode cX6_copyFrom 149 = .ok (.getfield 30, 3) := by decide +kernel
theorem dX6_copyFrom_152 : decode cX6_copyFrom 152 = .ok (.iconst 0, 1) := by decide +kernel
theorem dX6_copyFrom_153 : decode cX6_copyFrom 153 = .ok (.aload_n 0, 1) := by decide +kernel
theorem dX6_copyFrom_154 : decode cX6_copyFrom 154 = .ok (.getfield 30, 3) := by decide +kernel
theorem dX6_copyFrom_157 : decode cX6_copyFrom 157 = .ok (.iconst 0, 1) := by decide +kernel
theorem dX6_copyFrom_158 : decode cX6_copyFrom 158 = .ok (.aload_n 0, 1) := by decide +kernel
theorem dX6_copyFrom_159 : decode cX6_copyFrom 159 = .ok (.getfield 55, 3) := by decide +kernel
theorem dX6_copyFrom_162 : decode cX6_copyFrom 162 = .ok (.invokestatic 67, 3) := by decide +kernel
theorem dX6_copyFrom_165 : decode cX6_copyFrom 165 = .ok (.aload_n 1, 1) := by decide +kernel
theorem dX6_copyFrom_166 : decode cX6_copyFrom 166 = .ok (.getfield 33, 3) := by decide +kernel
theorem dX6_copyFrom_169 : decode cX6_copyFrom 169 = .ok (.iconst 0, 1) := by decide +kernel
theorem dX6_copyFrom_170 : decode cX6_copyFrom 170 = .ok (.aload_n 0, 1) := by decide +kernel
theorem dX6_copyFrom_171 : decode cX6_copyFrom 171 = .ok (.getfield 33, 3) := by decide +kernel
theorem dX6_copyFrom_174 : decode cX6_copyFrom 174 = .ok (.iconst 0, 1) := by decide +kernel
theorem dX6_copyFrom_175 : decode cX6_copyFrom 175 = .ok (.aload_n 0, 1) := by decide +kernel
theorem dX6_copyFrom_176 : decode cX6_copyFrom 176 = .ok (.getfield 55, 3) := by decide +kernel
theorem dX6_copyFrom_179 : decode cX6_copyFrom 179 = .ok (.invokestatic 67, 3) := by decide +kernel
theorem dX6_copyFrom_182 : decode cX6_copyFrom 182 = .ok (.aload_n 1, 1) := by decide +kernel
theorem dX6_copyFrom_183 : decode cX6_copyFrom 183 = .ok (.getfield 36, 3) := by decide +kernel
theorem dX6_copyFrom_186 : decode cX6_copyFrom 186 = .ok (.iconst 0, 1) := by decide +kernel
theorem dX6_copyFrom_187 : decode cX6_copyFrom 187 = .ok (.aload_n 0, 1) := by decide +kernel
theorem dX6_copyFrom_188 : decode cX6_copyFrom 188 = .ok (.getfield 36, 3) := by decide +kernel
theorem dX6_copyFrom_191 : decode cX6_copyFrom 191 = .ok (.iconst 0, 1) := by decide +kernel
theorem dX6_copyFrom_192 : decode cX6_copyFrom 192 = .ok (.aload_n 0, 1) := by decide +kernel
theorem dX6_copyFrom_193 : decode cX6_copyFrom 193 = .ok (.getfield 55, 3) := by decide +kernel
theorem dX6_copyFrom_196 : decode cX6_copyFrom 196 = .ok (.invokestatic 67, 3) := by decide +kernel
theorem dX6_copyFrom_199 : decode cX6_copyFrom 199 = .ok (.aload_n 1, 1) := by decide +kernel
theorem dX6_copyFrom_200 : decode cX6_copyFrom 200 = .ok (.getfield 39, 3) := by decide +kernel
theorem dX6_copyFrom_203 : decode cX6_copyFrom 203 = .ok (.iconst 0, 1) := by decide +kernel
theorem dX6_copyFrom_204 : decode cX6_copyFrom 204 = .ok (.aload_n 0, 1) := by decide +kernel
theorem dX6_copyFrom_205 : decode cX6_copyFrom 205 = .ok (.getfield 39, 3) := by decide +kernel
theorem dX6_copyFrom_208 : decode cX6_copyFrom 208 = .ok (.iconst 0, 1) := by decide +kernel
theorem dX6_copyFrom_209 : decode cX6_copyFrom 209 = .ok (.aload_n 0, 1) := by decide +kernel
theorem dX6_copyFrom_210 : decode cX6_copyFrom 210 = .ok (.getfield 55, 3) := by decide +kernel
theorem dX6_copyFrom_213 : decode cX6_copyFrom 213 = .ok (.invokestatic 67, 3) := by decide +kernel
theorem dX6_copyFrom_216 : decode cX6_copyFrom 216 = .ok (.aload_n 1, 1) := by decide +kernel
theorem dX6_copyFrom_217 : decode cX6_copyFrom 217 = .ok (.getfield 42, 3) := by decide +kernel
theorem dX6_copyFrom_220 : decode cX6_copyFrom 220 = .ok (.iconst 0, 1) := by decide +kernel
theorem dX6_copyFrom_221 : decode cX6_copyFrom 221 = .ok (.aload_n 0, 1) := by decide +kernel
theorem dX6_copyFrom_222 : decode cX6_copyFrom 222 = .ok (.getfield 42, 3) := by decide +kernel
theorem dX6_copyFrom_225 : decode cX6_copyFrom 225 = .ok (.iconst 0, 1) := by decide +kernel
theorem dX6_copyFrom_226 : decode cX6_copyFrom 226 = .ok (.aload_n 0, 1) := by decide +kernel
theorem dX6_copyFrom_227 : decode cX6_copyFrom 227 = .ok (.getfield 55, 3) := by decide +kernel
theorem dX6_copyFrom_230 : decode cX6_copyFrom 230 = .ok (.invokestatic 67, 3) := by decide +kernel
theorem dX6_copyFrom_233 : decode cX6_copyFrom 233 = .ok (.aload_n 1, 1) := by decide +kernel
theorem dX6_copyFrom_234 : decode cX6_copyFrom 234 = .ok (.getfield 45, 3) := by decide +kernel
theorem dX6_copyFrom_237 : decode cX6_copyFrom 237 = .ok (.iconst 0, 1) := by decide +kernel
theorem dX6_copyFrom_238 : decode cX6_copyFrom 238 = .ok (.aload_n 0, 1) := by decide +kernel
theorem dX6_copyFrom_239 : decode cX6_copyFrom 239 = .ok (.getfield 45, 3) := by decide +kernel
theorem dX6_copyFrom_242 : decode cX6_copyFrom 242 = .ok (.iconst 0, 1) := by decide +kernel
theorem dX6_copyFrom_243 : decode cX6_copyFrom 243 = .ok (.aload_n 0, 1) := by decide +kernel
theorem dX6_copyFrom_244 : decode cX6_copyFrom 244 = .ok (.getfield 55, 3) := by decide +kernel
theorem dX6_copyFrom_247 : decode cX6_copyFrom 247 = .ok (.invokestatic 67, 3) := by decide +kernel
theorem dX6_copyFrom_250 : decode cX6_copyFrom 250 = .ok (.return_, 1) := by decide +kernel
theorem dX6_hour_0 : decode cX6_hour 0 = .ok (.aload_n 0, 1) := by decide +kernel
theorem dX6_hour_1 : decode cX6_hour 1 = .ok (.getfield 48, 3) := by decide +kernel
theorem dX6_hour_4 : decode cX6_hour 4 = .ok (.bipush 60, 2) := by decide +kernel
theorem dX6_hour_6 : decode cX6_hour 6 = .ok (.idiv, 1) := by decide +kernel
theorem dX6_hour_7 : decode cX6_hour 7 = .ok (.bipush 24, 2) := by decide +kernel
theorem dX6_hour_9 : decode cX6_hour 9 = .ok (.irem, 1) := by decide +kernel
theorem dX6_hour_10 : decode cX6_hour 10 = .ok (.ireturn, 1) := by decide +kernel
theorem dX6_crossTogether_0 : decode cX6_crossTogether 0 = .ok (.aload_n 0, 1) := by decide +kernel
theorem dX6_crossTogether_1 : decode cX6_crossTogether 1 = .ok (.getfield 9, 3) := by decide +kernel
theorem dX6_crossTogether_4 : decode cX6_crossTogether 4 = .ok (.iconst 0, 1) := by decide +kernel
theorem dX6_crossTogether_5 : decode cX6_crossTogether 5 = .ok (.iaload, 1) := by decide +kernel
theorem dX6_crossTogether_6 : decode cX6_crossTogether 6 = .ok (.aload_n 0, 1) := by decide +kernel
theorem dX6_crossTogether_7 : decode cX6_crossTogether 7 = .ok (.getfield 9, 3) := by decide +kernel
theorem dX6_crossTogether_10 : decode cX6_crossTogether 10 = .ok (.iconst 1, 1) := by decide +kernel
theorem dX6_crossTogether_11 : decode cX6_crossTogether 11 = .ok (.iaload, 1) := by decide +kernel
theorem dX6_crossTogether_12 : decode cX6_crossTogether 12 = .ok (.iadd, 1) := by decide +kernel
theorem dX6_crossTogether_13 : decode cX6_crossTogether 13 = .ok (.ireturn, 1) := by decide +kernel
theorem dX6_isFull_0 : decode cX6_isFull 0 = .ok (.aload_n 0, 1) := by decide +kernel
theorem dX6_isFull_1 : decode cX6_isFull 1 = .ok (.getfield 55, 3) := by decide +kernel
theorem dX6_isFull_4 : decode cX6_isFull 4 = .ok (.bipush 60, 2) := by decide +kernel
theorem dX6_isFull_6 : decode cX6_isFull 6 = .ok (.if_icmp .lt 7, 3) := by decide +kernel
theorem dX6_isFull_9 : decode cX6_isFull 9 = .ok (.iconst 1, 1) := by decide +kernel
theorem dX6_isFull_10 : decode cX6_isFull 10 = .ok (.goto 4, 3) := by decide +kernel
theorem dX6_isFull_13 : decode cX6_isFull 13 = .ok (.iconst 0, 1) := by decide +kernel
theorem dX6_isFull_14 : decode cX6_isFull 14 = .ok (.ireturn, 1) := by decide +kernel
theorem dX6_has_0 : decode cX6_has 0 = .ok (.iload_n 1, 1) := by decide +kernel
theorem dX6_has_1 : decode cX6_has 1 = .ok (.ifCond .lt 15, 3) := by decide +kernel
theorem dX6_has_4 : decode cX6_has 4 = .ok (.iload_n 1, 1) := by decide +kernel
theorem dX6_has_5 : decode cX6_has 5 = .ok (.aload_n 0, 1) := by decide +kernel
theorem dX6_has_6 : decode cX6_has 6 = .ok (.getfield 55, 3) := by decide +kernel
theorem dX6_has_9 : decode cX6_has 9 = .ok (.if_icmp .ge 7, 3) := by decide +kernel
theorem dX6_has_12 : decode cX6_has 12 = .ok (.iconst 1, 1) := by decide +kernel
theorem dX6_has_13 : decode cX6_has 13 = .ok (.goto 4, 3) := by decide +kernel
theorem dX6_has_16 : decode cX6_has 16 = .ok (.iconst 0, 1) := by decide +kernel
theorem dX6_has_17 : decode cX6_has 17 = .ok (.ireturn, 1) := by decide +kernel
theorem dX6_isOpen_0 : decode cX6_isOpen 0 = .ok (.aload_n 0, 1) := by decide +kernel
theorem dX6_isOpen_1 : decode cX6_isOpen 1 = .ok (.getfield 27, 3) := by decide +kernel
theorem dX6_isOpen_4 : decode cX6_isOpen 4 = .ok (.iload_n 1, 1) := by decide +kernel
theorem dX6_isOpen_5 : decode cX6_isOpen 5 = .ok (.iaload, 1) := by decide +kernel
theorem dX6_isOpen_6 : decode cX6_isOpen 6 = .ok (.iconst (-1), 1) := by decide +kernel
theorem dX6_isOpen_7 : decode cX6_isOpen 7 = .ok (.if_icmp .ne 16, 3) := by decide +kernel
theorem dX6_isOpen_10 : decode cX6_isOpen 10 = .ok (.aload_n 0, 1) := by decide +kernel
theorem dX6_isOpen_11 : decode cX6_isOpen 11 = .ok (.getfield 42, 3) := by decide +kernel
theorem dX6_isOpen_14 : decode cX6_isOpen 14 = .ok (.iload_n 1, 1) := by decide +kernel
theorem dX6_isOpen_15 : decode cX6_isOpen 15 = .ok (.iaload, 1) := by decide +kernel
theorem dX6_isOpen_16 : decode cX6_isOpen 16 = .ok (.ifCond .ne 7, 3) := by decide +kernel
theorem dX6_isOpen_19 : decode cX6_isOpen 19 = .ok (.iconst 1, 1) := by decide +kernel
theorem dX6_isOpen_20 : decode cX6_isOpen 20 = .ok (.goto 4, 3) := by decide +kernel
theorem dX6_isOpen_23 : decode cX6_isOpen 23 = .ok (.iconst 0, 1) := by decide +kernel
theorem dX6_isOpen_24 : decode cX6_isOpen 24 = .ok (.ireturn, 1) := by decide +kernel
theorem dX6_clearMessages_0 : decode cX6_clearMessages 0 = .ok (.aload_n 0, 1) := by decide +kernel
theorem dX6_clearMessages_1 : decode cX6_clearMessages 1 = .ok (.iconst 0, 1) := by decide +kernel
theorem dX6_clearMessages_2 : decode cX6_clearMessages 2 = .ok (.putfield 55, 3) := by decide +kernel
theorem dX6_clearMessages_5 : decode cX6_clearMessages 5 = .ok (.aload_n 0, 1) := by decide +kernel
theorem dX6_clearMessages_6 : decode cX6_clearMessages 6 = .ok (.iconst 0, 1) := by decide +kernel
theorem dX6_clearMessages_7 : decode cX6_clearMessages 7 = .ok (.putfield 61, 3) := by decide +kernel
theorem dX6_clearMessages_10 : decode cX6_clearMessages 10 = .ok (.aload_n 0, 1) := by decide +kernel
theorem dX6_clearMessages_11 : decode cX6_clearMessages 11 = .ok (.iconst 0, 1) := by decide +kernel
theorem dX6_clearMessages_12 : decode cX6_clearMessages 12 = .ok (.putfield 64, 3) := by decide +kernel
theorem dX6_clearMessages_15 : decode cX6_clearMessages 15 = .ok (.return_, 1) := by decide +kernel
theorem dX6_add_0 : decode cX6_add 0 = .ok (.aload_n 0, 1) := by decide +kernel
theorem dX6_add_1 : decode cX6_add 1 = .ok (.invokevirtual 73, 3) := by decide +kernel
theorem dX6_add_4 : decode cX6_add 4 = .ok (.ifCond .eq 5, 3) := by decide +kernel
theorem dX6_add_7 : decode cX6_add 7 = .ok (.iconst (-1), 1) := by decide +kernel
theorem dX6_add_8 : decode cX6_add 8 = .ok (.ireturn, 1) := by decide +kernel
theorem dX6_add_9 : decode cX6_add 9 = .ok (.aload_n 0, 1) := by decide +kernel
theorem dX6_add_10 : decode cX6_add 10 = .ok (.getfield 55, 3) := by decide +kernel
theorem dX6_add_13 : decode cX6_add 13 = .ok (.istore 6, 2) := by decide +kernel
theorem dX6_add_15 : decode cX6_add 15 = .ok (.aload_n 0, 1) := by decide +kernel
theorem dX6_add_16 : decode cX6_add 16 = .ok (.getfield 21, 3) := by decide +kernel
theorem dX6_add_19 : decode cX6_add 19 = .ok (.iload 6, 2) := by decide +kernel
theorem dX6_add_21 : decode cX6_add 21 = .ok (.iload_n 1, 1) := by decide +kernel
theorem dX6_add_22 : decode cX6_add 22 = .ok (.iastore, 1) := by decide +kernel
theorem dX6_add_23 : decode cX6_add 23 = .ok (.aload_n 0, 1) := by decide +kernel
theorem dX6_add_24 : decode cX6_add 24 = .ok (.getfield 24, 3) := by decide +kernel
theorem dX6_add_27 : decode cX6_add 27 = .ok (.iload 6, 2) := by decide +kernel
theorem dX6_add_29 : decode cX6_add 29 = .ok (.aload_n 0, 1) := by decide +kernel
theorem dX6_add_30 : decode cX6_add 30 = .ok (.getfield 48, 3) := by decide +kernel
theorem dX6_add_33 : decode cX6_add 33 = .ok (.iastore, 1) := by decide +kernel
theorem dX6_add_34 : decode cX6_add 34 = .ok (.aload_n 0, 1) := by decide +kernel
theorem dX6_add_35 : decode cX6_add 35 = .ok (.getfield 27, 3) := by decide +kernel
theorem dX6_add_38 : decode cX6_add 38 = .ok (.iload 6, 2) := by decide +kernel
theorem dX6_add_40 : decode cX6_add 40 = .ok (.iconst (-1), 1) := by decide +kernel
theorem dX6_add_41 : decode cX6_add 41 = .ok (.iastore, 1) := by decide +kernel
theorem dX6_add_42 : decode cX6_add 42 = .ok (.aload_n 0, 1) := by decide +kernel
theorem dX6_add_43 : decode cX6_add 43 = .ok (.getfield 30, 3) := by decide +kernel
theorem dX6_add_46 : decode cX6_add 46 = .ok (.iload 6, 2) := by decide +kernel
theorem dX6_add_48 : decode cX6_add 48 = .ok (.iload_n 2, 1) := by decide +kernel
theorem dX6_add_49 : decode cX6_add 49 = .ok (.iastore, 1) := by decide +kernel
theorem dX6_add_50 : decode cX6_add 50 = .ok (.aload_n 0, 1) := by decide +kernel
theorem dX6_add_51 : decode cX6_add 51 = .ok (.getfield 33, 3) := by decide +kernel
theorem dX6_add_54 : decode cX6_add 54 = .ok (.iload 6, 2) := by decide +kernel
theorem dX6_add_56 : decode cX6_add 56 = .ok (.iload_n 3, 1) := by decide +kernel
theorem dX6_add_57 : decode cX6_add 57 = .ok (.iastore, 1) := by decide +kernel
theorem dX6_add_58 : decode cX6_add 58 = .ok (.aload_n 0, 1) := by decide +kernel
theorem dX6_add_59 : decode cX6_add 59 = .ok (.getfield 36, 3) := by decide +kernel
theorem dX6_add_62 : decode cX6_add 62 = .ok (.iload 6, 2) := by decide +kernel
theorem dX6_add_64 : decode cX6_add 64 = .ok (.iload 4, 2) := by decide +kernel
theorem dX6_add_66 : decode cX6_add 66 = .ok (.iastore, 1) := by decide +kernel
theorem dX6_add_67 : decode cX6_add 67 = .ok (.aload_n 0, 1) := by decide +kernel
theorem dX6_add_68 : decode cX6_add 68 = .ok (.getfield 39, 3) := by decide +kernel
theorem dX6_add_71 : decode cX6_add 71 = .ok (.iload 6, 2) := by decide +kernel
theorem dX6_add_73 : decode cX6_add 73 = .ok (.iload 5, 2) := by decide +kernel
theorem dX6_add_75 : decode cX6_add 75 = .ok (.iastore, 1) := by decide +kernel
theorem dX6_add_76 : decode cX6_add 76 = .ok (.aload_n 0, 1) := by decide +kernel
theorem dX6_add_77 : decode cX6_add 77 = .ok (.getfield 42, 3) := by decide +kernel
theorem dX6_add_80 : decode cX6_add 80 = .ok (.iload 6, 2) := by decide +kernel
theorem dX6_add_82 : decode cX6_add 82 = .ok (.iconst 0, 1) := by decide +kernel
theorem dX6_add_83 : decode cX6_add 83 = .ok (.iastore, 1) := by decide +kernel
theorem dX6_add_84 : decode cX6_add 84 = .ok (.aload_n 0, 1) := by decide +kernel
theorem dX6_add_85 : decode cX6_add 85 = .ok (.getfield 45, 3) := by decide +kernel
theorem dX6_add_88 : decode cX6_add 88 = .ok (.iload 6, 2) := by decide +kernel
theorem dX6_add_90 : decode cX6_add 90 = .ok (.iconst (-1), 1) := by decide +kernel
theorem dX6_add_91 : decode cX6_add 91 = .ok (.iastore, 1) := by decide +kernel
theorem dX6_add_92 : decode cX6_add 92 = .ok (.aload_n 0, 1) := by decide +kernel
theorem dX6_add_93 : decode cX6_add 93 = .ok (.dup, 1) := by decide +kernel
theorem dX6_add_94 : decode cX6_add 94 = .ok (.getfield 55, 3) := by decide +kernel
theorem dX6_add_97 : decode cX6_add 97 = .ok (.iconst 1, 1) := by decide +kernel
theorem dX6_add_98 : decode cX6_add 98 = .ok (.iadd, 1) := by decide +kernel
theorem dX6_add_99 : decode cX6_add 99 = .ok (.putfield 55, 3) := by decide +kernel
theorem dX6_add_102 : decode cX6_add 102 = .ok (.aload_n 0, 1) := by decide +kernel
theorem dX6_add_103 : decode cX6_add 103 = .ok (.dup, 1) := by decide +kernel
theorem dX6_add_104 : decode cX6_add 104 = .ok (.getfield 61, 3) := by decide +kernel
theorem dX6_add_107 : decode cX6_add 107 = .ok (.iconst 1, 1) := by decide +kernel
theorem dX6_add_108 : decode cX6_add 108 = .ok (.iadd, 1) := by decide +kernel
theorem dX6_add_109 : decode cX6_add 109 = .ok (.putfield 61, 3) := by decide +kernel
theorem dX6_add_112 : decode cX6_add 112 = .ok (.iload 6, 2) := by decide +kernel
theorem dX6_add_114 : decode cX6_add 114 = .ok (.ireturn, 1) := by decide +kernel
theorem dX6_latestOpenOf_0 : decode cX6_latestOpenOf 0 = .ok (.aload_n 0, 1) := by decide +kernel
theorem dX6_latestOpenOf_1 : decode cX6_latestOpenOf 1 = .ok (.getfield 55, 3) := by decide +kernel
theorem dX6_latestOpenOf_4 : decode cX6_latestOpenOf 4 = .ok (.iconst 1, 1) := by decide +kernel
theorem dX6_latestOpenOf_5 : decode cX6_latestOpenOf 5 = .ok (.isub, 1) := by decide +kernel
theorem dX6_latestOpenOf_6 : decode cX6_latestOpenOf 6 = .ok (.istore_n 2, 1) := by decide +kernel
theorem dX6_latestOpenOf_7 : decode cX6_latestOpenOf 7 = .ok (.iload_n 2, 1) := by decide +kernel
theorem dX6_latestOpenOf_8 : decode cX6_latestOpenOf 8 = .ok (.ifCond .lt 29, 3) := by decide +kernel
theorem dX6_latestOpenOf_11 : decode cX6_latestOpenOf 11 = .ok (.aload_n 0, 1) := by decide +kernel
theorem dX6_latestOpenOf_12 : decode cX6_latestOpenOf 12 = .ok (.getfield 21, 3) := by decide +kernel
theorem dX6_latestOpenOf_15 : decode cX6_latestOpenOf 15 = .ok (.iload_n 2, 1) := by decide +kernel
theorem dX6_latestOpenOf_16 : decode cX6_latestOpenOf 16 = .ok (.iaload, 1) := by decide +kernel
theorem dX6_latestOpenOf_17 : decode cX6_latestOpenOf 17 = .ok (.iload_n 1, 1) := by decide +kernel
theorem dX6_latestOpenOf_18 : decode cX6_latestOpenOf 18 = .ok (.if_icmp .ne 13, 3) := by decide +kernel
theorem dX6_latestOpenOf_21 : decode cX6_latestOpenOf 21 = .ok (.aload_n 0, 1) := by decide +kernel
theorem dX6_latestOpenOf_22 : decode cX6_latestOpenOf 22 = .ok (.iload_n 2, 1) := by decide +kernel
theorem dX6_latestOpenOf_23 : decode cX6_latestOpenOf 23 = .ok (.invokevirtual 77, 3) := by decide +kernel
theorem dX6_latestOpenOf_26 : decode cX6_latestOpenOf 26 = .ok (.ifCond .eq 5, 3) := by decide +kernel
theorem dX6_latestOpenOf_29 : decode cX6_latestOpenOf 29 = .ok (.iload_n 2, 1) := by decide +kernel
theorem dX6_latestOpenOf_30 : decode cX6_latestOpenOf 30 = .ok (.ireturn, 1) := by decide +kernel
theorem dX6_latestOpenOf_31 : decode cX6_latestOpenOf 31 = .ok (.iinc 2 (-1), 3) := by decide +kernel
theorem dX6_latestOpenOf_34 : decode cX6_latestOpenOf 34 = .ok (.goto (-27), 3) := by decide +kernel
theorem dX6_latestOpenOf_37 : decode cX6_latestOpenOf 37 = .ok (.iconst (-1), 1) := by decide +kernel
theorem dX6_latestOpenOf_38 : decode cX6_latestOpenOf 38 = .ok (.ireturn, 1) := by decide +kernel
theorem dX6_openOf_0 : decode cX6_openOf 0 = .ok (.iconst 0, 1) := by decide +kernel
theorem dX6_openOf_1 : decode cX6_openOf 1 = .ok (.istore_n 2, 1) := by decide +kernel
theorem dX6_openOf_2 : decode cX6_openOf 2 = .ok (.iconst 0, 1) := by decide +kernel
theorem dX6_openOf_3 : decode cX6_openOf 3 = .ok (.istore_n 3, 1) := by decide +kernel
theorem dX6_openOf_4 : decode cX6_openOf 4 = .ok (.iload_n 3, 1) := by decide +kernel
theorem dX6_openOf_5 : decode cX6_openOf 5 = .ok (.aload_n 0, 1) := by decide +kernel
theorem dX6_openOf_6 : decode cX6_openOf 6 = .ok (.getfield 55, 3) := by decide +kernel
theorem dX6_openOf_9 : decode cX6_openOf 9 = .ok (.if_icmp .ge 35, 3) := by decide +kernel
theorem dX6_openOf_12 : decode cX6_openOf 12 = .ok (.iload_n 2, 1) := by decide +kernel
theorem dX6_openOf_13 : decode cX6_openOf 13 = .ok (.aload_n 0, 1) := by decide +kernel
theorem dX6_openOf_14 : decode cX6_openOf 14 = .ok (.getfield 21, 3) := by decide +kernel
theorem dX6_openOf_17 : decode cX6_openOf 17 = .ok (.iload_n 3, 1) := by decide +kernel
theorem dX6_openOf_18 : decode cX6_openOf 18 = .ok (.iaload, 1) := by decide +kernel
theorem dX6_openOf_19 : decode cX6_openOf 19 = .ok (.iload_n 1, 1) := by decide +kernel
theorem dX6_openOf_20 : decode cX6_openOf 20 = .ok (.if_icmp .ne 15, 3) := by decide +kernel
theorem dX6_openOf_23 : decode cX6_openOf 23 = .ok (.aload_n 0, 1) := by decide +kernel
theorem dX6_openOf_24 : decode cX6_openOf 24 = .ok (.iload_n 3, 1) := by decide +kernel
theorem dX6_openOf_25 : decode cX6_openOf 25 = .ok (.invokevirtual 77, 3) := by decide +kernel
theorem dX6_openOf_28 : decode cX6_openOf 28 = .ok (.ifCond .eq 7, 3) := by decide +kernel
theorem dX6_openOf_31 : decode cX6_openOf 31 = .ok (.iconst 1, 1) := by decide +kernel
theorem dX6_openOf_32 : decode cX6_openOf 32 = .ok (.goto 4, 3) := by decide +kernel
theorem dX6_openOf_35 : decode cX6_openOf 35 = .ok (.iconst 0, 1) := by decide +kernel
theorem dX6_openOf_36 : decode cX6_openOf 36 = .ok (.iadd, 1) := by decide +kernel
theorem dX6_openOf_37 : decode cX6_openOf 37 = .ok (.istore_n 2, 1) := by decide +kernel
theorem dX6_openOf_38 : decode cX6_openOf 38 = .ok (.iinc 3 1, 3) := by decide +kernel
theorem dX6_openOf_41 : decode cX6_openOf 41 = .ok (.goto (-37), 3) := by decide +kernel
theorem dX6_openOf_44 : decode cX6_openOf 44 = .ok (.iload_n 2, 1) := by decide +kernel
theorem dX6_openOf_45 : decode cX6_openOf 45 = .ok (.ireturn, 1) := by decide +kernel
theorem dX6_whoseIsLast_0 : decode cX6_whoseIsLast 0 = .ok (.aload_n 0, 1) := by decide +kernel
theorem dX6_whoseIsLast_1 : decode cX6_whoseIsLast 1 = .ok (.getfield 55, 3) := by decide +kernel
theorem dX6_whoseIsLast_4 : decode cX6_whoseIsLast 4 = .ok (.iconst 1, 1) := by decide +kernel
theorem dX6_whoseIsLast_5 : decode cX6_whoseIsLast 5 = .ok (.isub, 1) := by decide +kernel
theorem dX6_whoseIsLast_6 : decode cX6_whoseIsLast 6 = .ok (.istore_n 1, 1) := by decide +kernel
theorem dX6_whoseIsLast_7 : decode cX6_whoseIsLast 7 = .ok (.iload_n 1, 1) := by decide +kernel
theorem dX6_whoseIsLast_8 : decode cX6_whoseIsLast 8 = .ok (.ifCond .lt 25, 3) := by decide +kernel
theorem dX6_whoseIsLast_11 : decode cX6_whoseIsLast 11 = .ok (.aload_n 0, 1) := by decide +kernel
theorem dX6_whoseIsLast_12 : decode cX6_whoseIsLast 12 = .ok (.getfield 42, 3) := by decide +kernel
theorem dX6_whoseIsLast_15 : decode cX6_whoseIsLast 15 = .ok (.iload_n 1, 1) := by decide +kernel
theorem dX6_whoseIsLast_16 : decode cX6_whoseIsLast 16 = .ok (.iaload, 1) := by decide +kernel
theorem dX6_whoseIsLast_17 : decode cX6_whoseIsLast 17 = .ok (.ifCond .ne 10, 3) := by decide +kernel
theorem dX6_whoseIsLast_20 : decode cX6_whoseIsLast 20 = .ok (.aload_n 0, 1) := by decide +kernel
theorem dX6_whoseIsLast_21 : decode cX6_whoseIsLast 21 = .ok (.getfield 21, 3) := by decide +kernel
theorem dX6_whoseIsLast_24 : decode cX6_whoseIsLast 24 = .ok (.iload_n 1, 1) := by decide +kernel
theorem dX6_whoseIsLast_25 : decode cX6_whoseIsLast 25 = .ok (.iaload, 1) := by decide +kernel
theorem dX6_whoseIsLast_26 : decode cX6_whoseIsLast 26 = .ok (.ireturn, 1) := by decide +kernel
theorem dX6_whoseIsLast_27 : decode cX6_whoseIsLast 27 = .ok (.iinc 1 (-1), 3) := by decide +kernel
theorem dX6_whoseIsLast_30 : decode cX6_whoseIsLast 30 = .ok (.goto (-23), 3) := by decide +kernel
theorem dX6_whoseIsLast_33 : decode cX6_whoseIsLast 33 = .ok (.iconst (-1), 1) := by decide +kernel
theorem dX6_whoseIsLast_34 : decode cX6_whoseIsLast 34 = .ok (.ireturn, 1) := by decide +kernel
theorem dX6_isAnswer_0 : decode cX6_isAnswer 0 = .ok (.aload_n 0, 1) := by decide +kernel
theorem dX6_isAnswer_1 : decode cX6_isAnswer 1 = .ok (.getfield 42, 3) := by decide +kernel
theorem dX6_isAnswer_4 : decode cX6_isAnswer 4 = .ok (.iload_n 1, 1) := by decide +kernel
theorem dX6_isAnswer_5 : decode cX6_isAnswer 5 = .ok (.iaload, 1) := by decide +kernel
theorem dX6_isAnswer_6 : decode cX6_isAnswer 6 = .ok (.ifCond .ne 20, 3) := by decide +kernel
theorem dX6_isAnswer_9 : decode cX6_isAnswer 9 = .ok (.aload_n 0, 1) := by decide +kernel
theorem dX6_isAnswer_10 : decode cX6_isAnswer 10 = .ok (.aload_n 0, 1) := by decide +kernel
theorem dX6_isAnswer_11 : decode cX6_isAnswer 11 = .ok (.getfield 39, 3) := by decide +kernel
theorem dX6_isAnswer_14 : decode cX6_isAnswer 14 = .ok (.iload_n 1, 1) := by decide +kernel
theorem dX6_isAnswer_15 : decode cX6_isAnswer 15 = .ok (.iaload, 1) := by decide +kernel
theorem dX6_isAnswer_16 : decode cX6_isAnswer 16 = .ok (.invokevirtual 81, 3) := by decide +kernel
theorem dX6_isAnswer_19 : decode cX6_isAnswer 19 = .ok (.ifCond .eq 7, 3) := by decide +kernel
theorem dX6_isAnswer_22 : decode cX6_isAnswer 22 = .ok (.iconst 1, 1) := by decide +kernel
theorem dX6_isAnswer_23 : decode cX6_isAnswer 23 = .ok (.goto 4, 3) := by decide +kernel
theorem dX6_isAnswer_26 : decode cX6_isAnswer 26 = .ok (.iconst 0, 1) := by decide +kernel
theorem dX6_isAnswer_27 : decode cX6_isAnswer 27 = .ok (.ireturn, 1) := by decide +kernel
theorem dX6_pauseOf_0 : decode cX6_pauseOf 0 = .ok (.aload_n 0, 1) := by decide +kernel
theorem dX6_pauseOf_1 : decode cX6_pauseOf 1 = .ok (.aload_n 0, 1) := by decide +kernel
theorem dX6_pauseOf_2 : decode cX6_pauseOf 2 = .ok (.getfield 39, 3) := by decide +kernel
theorem dX6_pauseOf_5 : decode cX6_pauseOf 5 = .ok (.iload_n 1, 1) := by decide +kernel
theorem dX6_pauseOf_6 : decode cX6_pauseOf 6 = .ok (.iaload, 1) := by decide +kernel
theorem dX6_pauseOf_7 : decode cX6_pauseOf 7 = .ok (.invokevirtual 81, 3) := by decide +kernel
theorem dX6_pauseOf_10 : decode cX6_pauseOf 10 = .ok (.ifCond .eq 24, 3) := by decide +kernel
theorem dX6_pauseOf_13 : decode cX6_pauseOf 13 = .ok (.aload_n 0, 1) := by decide +kernel
theorem dX6_pauseOf_14 : decode cX6_pauseOf 14 = .ok (.getfield 24, 3) := by decide +kernel
theorem dX6_pauseOf_17 : decode cX6_pauseOf 17 = .ok (.iload_n 1, 1) := by decide +kernel
theorem dX6_pauseOf_18 : decode cX6_pauseOf 18 = .ok (.iaload, 1) := by decide +kernel
theorem dX6_pauseOf_19 : decode cX6_pauseOf 19 = .ok (.aload_n 0, 1) := by decide +kernel
theorem dX6_pauseOf_20 : decode cX6_pauseOf 20 = .ok (.getfield 24, 3) := by decide +kernel
theorem dX6_pauseOf_23 : decode cX6_pauseOf 23 = .ok (.aload_n 0, 1) := by decide +kernel
theorem dX6_pauseOf_24 : decode cX6_pauseOf 24 = .ok (.getfield 39, 3) := by decide +kernel
theorem dX6_pauseOf_27 : decode cX6_pauseOf 27 = .ok (.iload_n 1, 1) := by decide +kernel
theorem dX6_pauseOf_28 : decode cX6_pauseOf 28 = .ok (.iaload, 1) := by decide +kernel
theorem dX6_pauseOf_29 : decode cX6_pauseOf 29 = .ok (.iaload, 1) := by decide +kernel
theorem dX6_pauseOf_30 : decode cX6_pauseOf 30 = .ok (.isub, 1) := by decide +kernel
theorem dX6_pauseOf_31 : decode cX6_pauseOf 31 = .ok (.goto 4, 3) := by decide +kernel
theorem dX6_pauseOf_34 : decode cX6_pauseOf 34 = .ok (.iconst 0, 1) := by decide +kernel
theorem dX6_pauseOf_35 : decode cX6_pauseOf 35 = .ok (.ireturn, 1) := by decide +kernel
theorem dX6_waitsFor_0 : decode cX6_waitsFor 0 = .ok (.aload_n 0, 1) := by decide +kernel
theorem dX6_waitsFor_1 : decode cX6_waitsFor 1 = .ok (.getfield 21, 3) := by decide +kernel
theorem dX6_waitsFor_4 : decode cX6_waitsFor 4 = .ok (.iload_n 2, 1) := by decide +kernel
theorem dX6_waitsFor_5 : decode cX6_waitsFor 5 = .ok (.iaload, 1) := by decide +kernel
theorem dX6_waitsFor_6 : decode cX6_waitsFor 6 = .ok (.iload_n 1, 1) := by decide +kernel
theorem dX6_waitsFor_7 : decode cX6_waitsFor 7 = .ok (.if_icmp .eq 12, 3) := by decide +kernel
theorem dX6_waitsFor_10 : decode cX6_waitsFor 10 = .ok (.aload_n 0, 1) := by decide +kernel
theorem dX6_waitsFor_11 : decode cX6_waitsFor 11 = .ok (.getfield 42, 3) := by decide +kernel
theorem dX6_waitsFor_14 : decode cX6_waitsFor 14 = .ok (.iload_n 2, 1) := by decide +kernel
theorem dX6_waitsFor_15 : decode cX6_waitsFor 15 = .ok (.iaload, 1) := by decide +kernel
theorem dX6_waitsFor_16 : decode cX6_waitsFor 16 = .ok (.ifCond .eq 5, 3) := by decide +kernel
theorem dX6_waitsFor_19 : decode cX6_waitsFor 19 = .ok (.iconst 0, 1) := by decide +kernel
theorem dX6_waitsFor_20 : decode cX6_waitsFor 20 = .ok (.ireturn, 1) := by decide +kernel
theorem dX6_waitsFor_21 : decode cX6_waitsFor 21 = .ok (.iload_n 2, 1) := by decide +kernel
theorem dX6_waitsFor_22 : decode cX6_waitsFor 22 = .ok (.iconst 1, 1) := by decide +kernel
theorem dX6_waitsFor_23 : decode cX6_waitsFor 23 = .ok (.iadd, 1) := by decide +kernel
theorem dX6_waitsFor_24 : decode cX6_waitsFor 24 = .ok (.istore_n 3, 1) := by decide +kernel
theorem dX6_waitsFor_25 : decode cX6_waitsFor 25 = .ok (.iload_n 3, 1) := by decide +kernel
theorem dX6_waitsFor_26 : decode cX6_waitsFor 26 = .ok (.aload_n 0, 1) := by decide +kernel
theorem dX6_waitsFor_27 : decode cX6_waitsFor 27 = .ok (.getfield 55, 3) := by decide +kernel
theorem dX6_waitsFor_30 : decode cX6_waitsFor 30 = .ok (.if_icmp .ge 30, 3) := by decide +kernel
theorem dX6_waitsFor_33 : decode cX6_waitsFor 33 = .ok (.aload_n 0, 1) := by decide +kernel
theorem dX6_waitsFor_34 : decode cX6_waitsFor 34 = .ok (.getfield 39, 3) := by decide +kernel
theorem dX6_waitsFor_37 : decode cX6_waitsFor 37 = .ok (.iload_n 3, 1) := by decide +kernel
theorem dX6_waitsFor_38 : decode cX6_waitsFor 38 = .ok (.iaload, 1) := by decide +kernel
theorem dX6_waitsFor_39 : decode cX6_waitsFor 39 = .ok (.iload_n 2, 1) := by decide +kernel
theorem dX6_waitsFor_40 : decode cX6_waitsFor 40 = .ok (.if_icmp .ne 14, 3) := by decide +kernel
theorem dX6_waitsFor_43 : decode cX6_waitsFor 43 = .ok (.aload_n 0, 1) := by decide +kernel
theorem dX6_waitsFor_44 : decode cX6_waitsFor 44 = .ok (.getfield 42, 3) := by decide +kernel
theorem dX6_waitsFor_47 : decode cX6_waitsFor 47 = .ok (.iload_n 3, 1) := by decide +kernel
theorem dX6_waitsFor_48 : decode cX6_waitsFor 48 = .ok (.iaload, 1) := by decide +kernel
theorem dX6_waitsFor_49 : decode cX6_waitsFor 49 = .ok (.ifCond .ne 5, 3) := by decide +kernel
theorem dX6_waitsFor_52 : decode cX6_waitsFor 52 = .ok (.iconst 0, 1) := by decide +kernel
theorem dX6_waitsFor_53 : decode cX6_waitsFor 53 = .ok (.ireturn, 1) := by decide +kernel
theorem dX6_waitsFor_54 : decode cX6_waitsFor 54 = .ok (.iinc 3 1, 3) := by decide +kernel
theorem dX6_waitsFor_57 : decode cX6_waitsFor 57 = .ok (.goto (-32), 3) := by decide +kernel
theorem dX6_waitsFor_60 : decode cX6_waitsFor 60 = .ok (.iconst 1, 1) := by decide +kernel
theorem dX6_waitsFor_61 : decode cX6_waitsFor 61 = .ok (.ireturn, 1) := by decide +kernel
theorem dX7_init_0 : decode cX7_init 0 = .ok (.aload_n 0, 1) := by decide +kernel
theorem dX7_init_1 : decode cX7_init 1 = .ok (.invokespecial 1, 3) := by decide +kernel
theorem dX7_init_4 : decode cX7_init 4 = .ok (.aload_n 0, 1) := by decide +kernel
theorem dX7_init_5 : decode cX7_init 5 = .ok (.new 7, 3) := by decide +kernel
theorem dX7_init_8 : decode cX7_init 8 = .ok (.dup, 1) := by decide +kernel
theorem dX7_init_9 : decode cX7_init 9 = .ok (.invokespecial 9, 3) := by decide +kernel
theorem dX7_init_12 : decode cX7_init 12 = .ok (.putfield 10, 3) := by decide +kernel
theorem dX7_init_15 : decode cX7_init 15 = .ok (.aload_n 0, 1) := by decide +kernel
theorem dX7_init_16 : decode cX7_init 16 = .ok (.sipush 600, 3) := by decide +kernel
theorem dX7_init_19 : decode cX7_init 19 = .ok (.newarray .int, 2) := by decide +kernel
theorem dX7_init_21 : decode cX7_init 21 = .ok (.putfield 16, 3) := by decide +kernel
theorem dX7_init_24 : decode cX7_init 24 = .ok (.aload_n 0, 1) := by decide +kernel
theorem dX7_init_25 : decode cX7_init 25 = .ok (.iconst 4, 1) := by decide +kernel
theorem dX7_init_26 : decode cX7_init 26 = .ok (.anewarray 20, 3) := by decide +kernel
theorem dX7_init_29 : decode cX7_init 29 = .ok (.dup, 1) := by decide +kernel
theorem dX7_init_30 : decode cX7_init 30 = .ok (.iconst 0, 1) := by decide +kernel
theorem dX7_init_31 : decode cX7_init 31 = .ok (.new 20, 3) := by decide +kernel
theorem dX7_init_34 : decode cX7_init 34 = .ok (.dup, 1) := by decide +kernel
theorem dX7_init_35 : decode cX7_init 35 = .ok (.bipush 64, 2) := by decide +kernel
theorem dX7_init_37 : decode cX7_init 37 = .ok (.sipush 400, 3) := by decide +kernel
theorem dX7_init_40 : decode cX7_init 40 = .ok (.invokespecial 24, 3) := by decide +kernel
theorem dX7_init_43 : decode cX7_init 43 = .ok (.aastore, 1) := by decide +kernel
theorem dX7_init_44 : decode cX7_init 44 = .ok (.dup, 1) := by decide +kernel
theorem dX7_init_45 : decode cX7_init 45 = .ok (.iconst 1, 1) := by decide +kernel
theorem dX7_init_46 : decode cX7_init 46 = .ok (.new 20, 3) := by decide +kernel
theorem dX7_init_49 : decode cX7_init 49 = .ok (.dup, 1) := by decide +kernel
theorem dX7_init_50 : decode cX7_init 50 = .ok (.bipush 64, 2) := by decide +kernel
theorem dX7_init_52 : decode cX7_init 52 = .ok (.iconst 0, 1) := by decide +kernel
theorem dX7_init_53 : decode cX7_init 53 = .ok (.invokespecial 24, 3) := by decide +kernel
theorem dX7_init_56 : decode cX7_init 56 = .ok (.aastore, 1) := by decide +kernel
theorem dX7_init_57 : decode cX7_init 57 = .ok (.dup, 1) := by decide +kernel
theorem dX7_init_58 : decode cX7_init 58 = .ok (.iconst 2, 1) := by decide +kernel
theorem dX7_init_59 : decode cX7_init 59 = .ok (.new 20, 3) := by decide +kernel
theorem dX7_init_62 : decode cX7_init 62 = .ok (.dup, 1) := by decide +kernel
theorem dX7_init_63 : decode cX7_init 63 = .ok (.bipush 96, 2) := by decide +kernel
theorem dX7_init_65 : decode cX7_init 65 = .ok (.iconst 0, 1) := by decide +kernel
theorem dX7_init_66 : decode cX7_init 66 = .ok (.invokespecial 24, 3) := by decide +kernel
theorem dX7_init_69 : decode cX7_init 69 = .ok (.aastore, 1) := by decide +kernel
theorem dX7_init_70 : decode cX7_init 70 = .ok (.dup, 1) := by decide +kernel
theorem dX7_init_71 : decode cX7_init 71 = .ok (.iconst 3, 1) := by decide +kernel
theorem dX7_init_72 : decode cX7_init 72 = .ok (.new 20, 3) := by decide +kernel
theorem dX7_init_75 : decode cX7_init 75 = .ok (.dup, 1) := by decide +kernel
theorem dX7_init_76 : decode cX7_init 76 = .ok (.bipush 16, 2) := by decide +kernel
theorem dX7_init_78 : decode cX7_init 78 = .ok (.iconst 0, 1) := by decide +kernel
theorem dX7_init_79 : decode cX7_init 79 = .ok (.invokespecial 24, 3) := by decide +kernel
theorem dX7_init_82 : decode cX7_init 82 = .ok (.aastore, 1) := by decide +kernel
theorem dX7_init_83 : decode cX7_init 83 = .ok (.putfield 27, 3) := by decide +kernel
theorem dX7_init_86 : decode cX7_init 86 = .ok (.aload_n 0, 1) := by decide +kernel
theorem dX7_init_87 : decode cX7_init 87 = .ok (.bipush 10, 2) := by decide +kernel
theorem dX7_init_89 : decode cX7_init 89 = .ok (.newarray .int, 2) := by decide +kernel
theorem dX7_init_91 : decode cX7_init 91 = .ok (.putfield 31, 3) := by decide +kernel
theorem dX7_init_94 : decode cX7_init 94 = .ok (.aload_n 0, 1) := by decide +kernel
theorem dX7_init_95 : decode cX7_init 95 = .ok (.bipush 8, 2) := by decide +kernel
theorem dX7_init_97 : decode cX7_init 97 = .ok (.newarray .int, 2) := by decide +kernel
theorem dX7_init_99 : decode cX7_init 99 = .ok (.putfield 34, 3) := by decide +kernel
theorem dX7_init_102 : decode cX7_init 102 = .ok (.return_, 1) := by decide +kernel
theorem dX7_copyFrom_0 : decode cX7_copyFrom 0 = .ok (.aload_n 0, 1) := by decide +kernel
theorem dX7_copyFrom_1 : decode cX7_copyFrom 1 = .ok (.getfield 10, 3) := by decide +kernel
theorem dX7_copyFrom_4 : decode cX7_copyFrom 4 = .ok (.aload_n 1, 1) := by decide +kernel
theorem dX7_copyFrom_5 : decode cX7_copyFrom 5 = .ok (.getfield 10, 3) := by decide +kernel
theorem dX7_copyFrom_8 : decode cX7_copyFrom 8 = .ok (.invokevirtual 37, 3) := by decide +kernel
theorem dX7_copyFrom_11 : decode cX7_copyFrom 11 = .ok (.aload_n 1, 1) := by decide +kernel
theorem dX7_copyFrom_12 : decode cX7_copyFrom 12 = .ok (.getfield 16, 3) := by decide +kernel
theorem dX7_copyFrom_15 : decode cX7_copyFrom 15 = .ok (.iconst 0, 1) := by decide +kernel
theorem dX7_copyFrom_16 : decode cX7_copyFrom 16 = .ok (.aload_n 0, 1) := by decide +kernel
theorem dX7_copyFrom_17 : decode cX7_copyFrom 17 = .ok (.getfield 16, 3) := by decide +kernel
theorem dX7_copyFrom_20 : decode cX7_copyFrom 20 = .ok (.iconst 0, 1) := by decide +kernel
theorem dX7_copyFrom_21 : decode cX7_copyFrom 21 = .ok (.aload_n 1, 1) := by decide +kernel
theorem dX7_copyFrom_22 : decode cX7_copyFrom 22 = .ok (.getfield 10, 3) := by decide +kernel
theorem dX7_copyFrom_25 : decode cX7_copyFrom 25 = .ok (.getfield 41, 3) := by decide +kernel
theorem dX7_copyFrom_28 : decode cX7_copyFrom 28 = .ok (.iconst 4, 1) := by decide +kernel
theorem dX7_copyFrom_29 : decode cX7_copyFrom 29 = .ok (.imul, 1) := by decide +kernel
theorem dX7_copyFrom_30 : decode cX7_copyFrom 30 = .ok (.invokestatic 45, 3) := by decide +kernel
theorem dX7_copyFrom_33 : decode cX7_copyFrom 33 = .ok (.iconst 0, 1) := by decide +kernel
theorem dX7_copyFrom_34 : decode cX7_copyFrom 34 = .ok (.istore_n 2, 1) := by decide +kernel
theorem dX7_copyFrom_35 : decode cX7_copyFrom 35 = .ok (.iload_n 2, 1) := by decide +kernel
theorem dX7_copyFrom_36 : decode cX7_copyFrom 36 = .ok (.iconst 4, 1) := by decide +kernel
theorem dX7_copyFrom_37 : decode cX7_copyFrom 37 = .ok (.if_icmp .ge 24, 3) := by decide +kernel
theorem dX7_copyFrom_40 : decode cX7_copyFrom 40 = .ok (.aload_n 0, 1) := by decide +kernel
theorem dX7_copyFrom_41 : decode cX7_copyFrom 41 = .ok (.getfield 27, 3) := by decide +kernel
theorem dX7_copyFrom_44 : decode cX7_copyFrom 44 = .ok (.iload_n 2, 1) := by decide +kernel
theorem dX7_copyFrom_45 : decode cX7_copyFrom 45 = .ok (.aaload, 1) := by decide +kernel
theorem dX7_copyFrom_46 : decode cX7_copyFrom 46 = .ok (.aload_n 1, 1) := by decide +kernel
theorem dX7_copyFrom_47 : decode cX7_copyFrom 47 = .ok (.getfield 27, 3) := by decide +kernel
theorem dX7_copyFrom_50 : decode cX7_copyFrom 50 = .ok (.iload_n 2, 1) := by decide +kernel
theorem dX7_copyFrom_51 : decode cX7_copyFrom 51 = .ok (.aaload, 1) := by decide +kernel
theorem dX7_copyFrom_52 : decode cX7_copyFrom 52 = .ok (.invokevirtual 51, 3) := by decide +kernel
theorem dX7_copyFrom_55 : decode cX7_copyFrom 55 = .ok (.iinc 2 1, 3) := by decide +kernel
theorem dX7_copyFrom_58 : decode cX7_copyFrom 58 = .ok (.goto (-23), 3) := by decide +kernel
theorem dX7_copyFrom_61 : decode cX7_copyFrom 61 = .ok (.aload_n 0, 1) := by decide +kernel
theorem dX7_copyFrom_62 : decode cX7_copyFrom 62 = .ok (.aload_n 1, 1) := by decide +kernel
theorem dX7_copyFrom_63 : decode cX7_copyFrom 63 = .ok (.getfield 54, 3) := by decide +kernel
theorem dX7_copyFrom_66 : decode cX7_copyFrom 66 = .ok (.putfield 54, 3) := by decide +kernel
theorem dX7_copyFrom_69 : decode cX7_copyFrom 69 = .ok (.aload_n 1, 1) := by decide +kernel
theorem dX7_copyFrom_70 : decode cX7_copyFrom 70 = .ok (.getfield 31, 3) := by decide +kernel
theorem dX7_copyFrom_73 : decode cX7_copyFrom 73 = .ok (.iconst 0, 1) := by decide +kernel
theorem dX7_copyFrom_74 : decode cX7_copyFrom 74 = .ok (.aload_n 0, 1) := by decide +kernel
theorem dX7_copyFrom_75 : decode cX7_copyFrom 75 = .ok (.getfield 31, 3) := by decide +kernel
theorem dX7_copyFrom_78 : decode cX7_copyFrom 78 = .ok (.iconst 0, 1) := by decide +kernel
theorem dX7_copyFrom_79 : decode cX7_copyFrom 79 = .ok (.aload_n 0, 1) := by decide +kernel
theorem dX7_copyFrom_80 : decode cX7_copyFrom 80 = .ok (.getfield 54, 3) := by decide +kernel
theorem dX7_copyFrom_83 : decode cX7_copyFrom 83 = .ok (.invokestatic 45, 3) := by decide +kernel
theorem dX7_copyFrom_86 : decode cX7_copyFrom 86 = .ok (.aload_n 1, 1) := by decide +kernel
theorem dX7_copyFrom_87 : decode cX7_copyFrom 87 = .ok (.getfield 34, 3) := by decide +kernel
theorem dX7_copyFrom_90 : decode cX7_copyFrom 90 = .ok (.iconst 0, 1) := by decide +kernel
theorem dX7_copyFrom_91 : decode cX7_copyFrom 91 = .ok (.aload_n 0, 1) := by decide +kernel
theorem dX7_copyFrom_92 : decode cX7_copyFrom 92 = .ok (.getfield 34, 3) := by decide +kernel
theorem dX7_copyFrom_95 : decode cX7_copyFrom 95 = .ok (.iconst 0, 1) := by decide +kernel
theorem dX7_copyFrom_96 : decode cX7_copyFrom 96 = .ok (.bipush 8, 2) := by decide +kernel
theorem dX7_copyFrom_98 : decode cX7_copyFrom 98 = .ok (.invokestatic 45, 3) := by decide +kernel
theorem dX7_copyFrom_101 : decode cX7_copyFrom 101 = .ok (.return_, 1) := by decide +kernel
theorem dX7_doing_0 : decode cX7_doing 0 = .ok (.aload_n 0, 1) := by decide +kernel
theorem dX7_doing_1 : decode cX7_doing 1 = .ok (.getfield 27, 3) := by decide +kernel
theorem dX7_doing_4 : decode cX7_doing 4 = .ok (.iconst 1, 1) := by decide +kernel
theorem dX7_doing_5 : decode cX7_doing 5 = .ok (.aaload, 1) := by decide +kernel
theorem dX7_doing_6 : decode cX7_doing 6 = .ok (.astore_n 3, 1) := by decide +kernel
theorem dX7_doing_7 : decode cX7_doing 7 = .ok (.iconst 0, 1) := by decide +kernel
theorem dX7_doing_8 : decode cX7_doing 8 = .ok (.istore 4, 2) := by decide +kernel
theorem dX7_doing_10 : decode cX7_doing 10 = .ok (.iload 4, 2) := by decide +kernel
theorem dX7_doing_12 : decode cX7_doing 12 = .ok (.aload_n 3, 1) := by decide +kernel
theorem dX7_doing_13 : decode cX7_doing 13 = .ok (.getfield 57, 3) := by decide +kernel
theorem dX7_doing_16 : decode cX7_doing 16 = .ok (.if_icmp .ge 57, 3) := by decide +kernel
theorem dX7_doing_19 : decode cX7_doing 19 = .ok (.iload_n 2, 1) := by decide +kernel
theorem dX7_doing_20 : decode cX7_doing 20 = .ok (.aload_n 3, 1) := by decide +kernel
theorem dX7_doing_21 : decode cX7_doing 21 = .ok (.iload 4, 2) := by decide +kernel
theorem dX7_doing_23 : decode cX7_doing 23 = .ok (.iconst 1, 1) := by decide +kernel
theorem dX7_doing_24 : decode cX7_doing 24 = .ok (.invokevirtual 60, 3) := by decide +kernel
theorem dX7_doing_27 : decode cX7_doing 27 = .ok (.isub, 1) := by decide +kernel
theorem dX7_doing_28 : decode cX7_doing 28 = .ok (.bipush 24, 2) := by decide +kernel
theorem dX7_doing_30 : decode cX7_doing 30 = .ok (.iadd, 1) := by decide +kernel
theorem dX7_doing_31 : decode cX7_doing 31 = .ok (.bipush 24, 2) := by decide +kernel
theorem dX7_doing_33 : decode cX7_doing 33 = .ok (.irem, 1) := by decide +kernel
theorem dX7_doing_34 : decode cX7_doing 34 = .ok (.istore 5, 2) := by decide +kernel
theorem dX7_doing_36 : decode cX7_doing 36 = .ok (.aload_n 3, 1) := by decide +kernel
theorem dX7_doing_37 : decode cX7_doing 37 = .ok (.iload 4, 2) := by decide +kernel
theorem dX7_doing_39 : decode cX7_doing 39 = .ok (.iconst 0, 1) := by decide +kernel
theorem dX7_doing_40 : decode cX7_doing 40 = .ok (.invokevirtual 60, 3) := by decide +kernel
theorem dX7_doing_43 : decode cX7_doing 43 = .ok (.iload_n 1, 1) := by decide +kernel
theorem dX7_doing_44 : decode cX7_doing 44 = .ok (.if_icmp .ne 23, 3) := by decide +kernel
theorem dX7_doing_47 : decode cX7_doing 47 = .ok (.iload 5, 2) := by decide +kernel
theorem dX7_doing_49 : decode cX7_doing 49 = .ok (.aload_n 3, 1) := by decide +kernel
theorem dX7_doing_50 : decode cX7_doing 50 = .ok (.iload 4, 2) := by decide +kernel
theorem dX7_doing_52 : decode cX7_doing 52 = .ok (.iconst 2, 1) := by decide +kernel
theorem dX7_doing_53 : decode cX7_doing 53 = .ok (.invokevirtual 60, 3) := by decide +kernel
theorem dX7_doing_56 : decode cX7_doing 56 = .ok (.if_icmp .ge 11, 3) := by decide +kernel
theorem dX7_doing_59 : decode cX7_doing 59 = .ok (.aload_n 3, 1) := by decide +kernel
theorem dX7_doing_60 : decode cX7_doing 60 = .ok (.iload 4, 2) := by decide +kernel
theorem dX7_doing_62 : decode cX7_doing 62 = .ok (.iconst 3, 1) := by decide +kernel
theorem dX7_doing_63 : decode cX7_doing 63 = .ok (.invokevirtual 60, 3) := by decide +kernel
theorem dX7_doing_66 : decode cX7_doing 66 = .ok (.ireturn, 1) := by decide +kernel
theorem dX7_doing_67 : decode cX7_doing 67 = .ok (.iinc 4 1, 3) := by decide +kernel
theorem dX7_doing_70 : decode cX7_doing 70 = .ok (.goto (-60), 3) := by decide +kernel
theorem dX7_doing_73 : decode cX7_doing 73 = .ok (.iconst 0, 1) := by decide +kernel
theorem dX7_doing_74 : decode cX7_doing 74 = .ok (.ireturn, 1) := by decide +kernel
theorem dX7_reads_0 : decode cX7_reads 0 = .ok (.aload_n 0, 1) := by decide +kernel
theorem dX7_reads_1 : decode cX7_reads 1 = .ok (.iload_n 1, 1) := by decide +kernel
theorem dX7_reads_2 : decode cX7_reads 2 = .ok (.iload_n 2, 1) := by decide +kernel
theorem dX7_reads_3 : decode cX7_reads 3 = .ok (.invokevirtual 64, 3) := by decide +kernel
theorem dX7_reads_6 : decode cX7_reads 6 = .ok (.iconst 1, 1) := by decide +kernel
theorem dX7_reads_7 : decode cX7_reads 7 = .ok (.if_icmp .gt 7, 3) := by decide +kernel
theorem dX7_reads_10 : decode cX7_reads 10 = .ok (.iconst 1, 1) := by decide +kernel
theorem dX7_reads_11 : decode cX7_reads 11 = .ok (.goto 4, 3) := by decide +kernel
theorem dX7_reads_14 : decode cX7_reads 14 = .ok (.iconst 0, 1) := by decide +kernel
theorem dX7_reads_15 : decode cX7_reads 15 = .ok (.ireturn, 1) := by decide +kernel
theorem dX7_signs_0 : decode cX7_signs 0 = .ok (.aload_n 0, 1) := by decide +kernel
theorem dX7_signs_1 : decode cX7_signs 1 = .ok (.getfield 27, 3) := by decide +kernel
theorem dX7_signs_4 : decode cX7_signs 4 = .ok (.iconst 3, 1) := by decide +kernel
theorem dX7_signs_5 : decode cX7_signs 5 = .ok (.aaload, 1) := by decide +kernel
theorem dX7_signs_6 : decode cX7_signs 6 = .ok (.getfield 57, 3) := by decide +kernel
theorem dX7_signs_9 : decode cX7_signs 9 = .ok (.ireturn, 1) := by decide +kernel
theorem dX7_surer_0 : decode cX7_surer 0 = .ok (.aload_n 0, 1) := by decide +kernel
theorem dX7_surer_1 : decode cX7_surer 1 = .ok (.getfield 27, 3) := by decide +kernel
theorem dX7_surer_4 : decode cX7_surer 4 = .ok (.iconst 3, 1) := by decide +kernel
theorem dX7_surer_5 : decode cX7_surer 5 = .ok (.aaload, 1) := by decide +kernel
theorem dX7_surer_6 : decode cX7_surer 6 = .ok (.iload_n 2, 1) := by decide +kernel
theorem dX7_surer_7 : decode cX7_surer 7 = .ok (.iconst 0, 1) := by decide +kernel
theorem dX7_surer_8 : decode cX7_surer 8 = .ok (.invokevirtual 60, 3) := by decide +kernel
theorem dX7_surer_11 : decode cX7_surer 11 = .ok (.istore 4, 2) := by decide +kernel
theorem dX7_surer_13 : decode cX7_surer 13 = .ok (.aload_n 0, 1) := by decide +kernel
theorem dX7_surer_14 : decode cX7_surer 14 = .ok (.getfield 27, 3) := by decide +kernel
theorem dX7_surer_17 : decode cX7_surer 17 = .ok (.iconst 3, 1) := by decide +kernel
theorem dX7_surer_18 : decode cX7_surer 18 = .ok (.aaload, 1) := by decide +kernel
theorem dX7_surer_19 : decode cX7_surer 19 = .ok (.iload_n 2, 1) := by decide +kernel
theorem dX7_surer_20 : decode cX7_surer 20 = .ok (.iconst 1, 1) := by decide +kernel
theorem dX7_surer_21 : decode cX7_surer 21 = .ok (.invokevirtual 60, 3) := by decide +kernel
theorem dX7_surer_24 : decode cX7_surer 24 = .ok (.istore 5, 2) := by decide +kernel
theorem dX7_surer_26 : decode cX7_surer 26 = .ok (.iload_n 1, 1) := by decide +kernel
theorem dX7_surer_27 : decode cX7_surer 27 = .ok (.i2l, 1) := by decide +kernel
theorem dX7_surer_28 : decode cX7_surer 28 = .ok (.iload_n 3, 1) := by decide +kernel
theorem dX7_surer_29 : decode cX7_surer 29 = .ok (.ifCond .eq 8, 3) := by decide +kernel
theorem dX7_surer_32 : decode cX7_surer 32 = .ok (.iload 5, 2) := by decide +kernel
theorem dX7_surer_34 : decode cX7_surer 34 = .ok (.goto 9, 3) := by decide +kernel
theorem dX7_surer_37 : decode cX7_surer 37 = .ok (.sipush 1000, 3) := by decide +kernel
theorem dX7_surer_40 : decode cX7_surer 40 = .ok (.iload 5, 2) := by decide +kernel
theorem dX7_surer_42 : decode cX7_surer 42 = .ok (.isub, 1) := by decide +kernel
theorem dX7_surer_43 : decode cX7_surer 43 = .ok (.i2l, 1) := by decide +kernel
theorem dX7_surer_44 : decode cX7_surer 44 = .ok (.lmul, 1) := by decide +kernel
theorem dX7_surer_45 : decode cX7_surer 45 = .ok (.lstore 6, 2) := by decide +kernel
theorem dX7_surer_47 : decode cX7_surer 47 = .ok (.ldc2_w 67, 3) := by decide +kernel
theorem dX7_surer_50 : decode cX7_surer 50 = .ok (.iload_n 1, 1) := by decide +kernel
theorem dX7_surer_51 : decode cX7_surer 51 = .ok (.i2l, 1) := by decide +kernel
theorem dX7_surer_52 : decode cX7_surer 52 = .ok (.lsub, 1) := by decide +kernel
theorem dX7_surer_53 : decode cX7_surer 53 = .ok (.iload_n 3, 1) := by decide +kernel
theorem dX7_surer_54 : decode cX7_surer 54 = .ok (.ifCond .eq 8, 3) := by decide +kernel
theorem dX7_surer_57 : decode cX7_surer 57 = .ok (.iload 4, 2) := by decide +kernel
theorem dX7_surer_59 : decode cX7_surer 59 = .ok (.goto 9, 3) := by decide +kernel
theorem dX7_surer_62 : decode cX7_surer 62 = .ok (.sipush 1000, 3) := by decide +kernel
theorem dX7_surer_65 : decode cX7_surer 65 = .ok (.iload 4, 2) := by decide +kernel
theorem dX7_surer_67 : decode cX7_surer 67 = .ok (.isub, 1) := by decide +kernel
theorem dX7_surer_68 : decode cX7_surer 68 = .ok (.i2l, 1) := by decide +kernel
theorem dX7_surer_69 : decode cX7_surer 69 = .ok (.lmul, 1) := by decide +kernel
theorem dX7_surer_70 : decode cX7_surer 70 = .ok (.lstore 8, 2) := by decide +kernel
theorem dX7_surer_72 : decode cX7_surer 72 = .ok (.lload 6, 2) := by decide +kernel
theorem dX7_surer_74 : decode cX7_surer 74 = .ok (.lload 8, 2) := by decide +kernel
theorem dX7_surer_76 : decode cX7_surer 76 = .ok (.ladd, 1) := by decide +kernel
theorem dX7_surer_77 : decode cX7_surer 77 = .ok (.lstore 10, 2) := by decide +kernel
theorem dX7_surer_79 : decode cX7_surer 79 = .ok (.lload 10, 2) := by decide +kernel
theorem dX7_surer_81 : decode cX7_surer 81 = .ok (.lconst 0, 1) := by decide +kernel
theorem dX7_surer_82 : decode cX7_surer 82 = .ok (.lcmp, 1) := by decide +kernel
theorem dX7_surer_83 : decode cX7_surer 83 = .ok (.ifCond .le 16, 3) := by decide +kernel
theorem dX7_surer_86 : decode cX7_surer 86 = .ok (.lload 6, 2) := by decide +kernel
theorem dX7_surer_88 : decode cX7_surer 88 = .ok (.ldc2_w 67, 3) := by decide +kernel
theorem dX7_surer_91 : decode cX7_surer 91 = .ok (.lmul, 1) := by decide +kernel
theorem dX7_surer_92 : decode cX7_surer 92 = .ok (.lload 10, 2) := by decide +kernel
theorem dX7_surer_94 : decode cX7_surer 94 = .ok (.ldiv, 1) := by decide +kernel
theorem dX7_surer_95 : decode cX7_surer 95 = .ok (.l2i, 1) := by decide +kernel
theorem dX7_surer_96 : decode cX7_surer 96 = .ok (.goto 4, 3) := by decide +kernel
theorem dX7_surer_99 : decode cX7_surer 99 = .ok (.iload_n 1, 1) := by decide +kernel
theorem dX7_surer_100 : decode cX7_surer 100 = .ok (.ireturn, 1) := by decide +kernel
theorem dX7_busFits_0 : decode cX7_busFits 0 = .ok (.iconst 0, 1) := by decide +kernel
theorem dX7_busFits_1 : decode cX7_busFits 1 = .ok (.istore_n 3, 1) := by decide +kernel
theorem dX7_busFits_2 : decode cX7_busFits 2 = .ok (.iload_n 3, 1) := by decide +kernel
theorem dX7_busFits_3 : decode cX7_busFits 3 = .ok (.aload_n 0, 1) := by decide +kernel
theorem dX7_busFits_4 : decode cX7_busFits 4 = .ok (.getfield 54, 3) := by decide +kernel
theorem dX7_busFits_7 : decode cX7_busFits 7 = .ok (.if_icmp .ge 38, 3) := by decide +kernel
theorem dX7_busFits_10 : decode cX7_busFits 10 = .ok (.iload_n 1, 1) := by decide +kernel
theorem dX7_busFits_11 : decode cX7_busFits 11 = .ok (.ifCond .le 34, 3) := by decide +kernel
theorem dX7_busFits_14 : decode cX7_busFits 14 = .ok (.aload_n 0, 1) := by decide +kernel
theorem dX7_busFits_15 : decode cX7_busFits 15 = .ok (.getfield 31, 3) := by decide +kernel
theorem dX7_busFits_18 : decode cX7_busFits 18 = .ok (.iload_n 3, 1) := by decide +kernel
theorem dX7_busFits_19 : decode cX7_busFits 19 = .ok (.iaload, 1) := by decide +kernel
theorem dX7_busFits_20 : decode cX7_busFits 20 = .ok (.iload_n 2, 1) := by decide +kernel
theorem dX7_busFits_21 : decode cX7_busFits 21 = .ok (.isub, 1) := by decide +kernel
theorem dX7_busFits_22 : decode cX7_busFits 22 = .ok (.istore 4, 2) := by decide +kernel
theorem dX7_busFits_24 : decode cX7_busFits 24 = .ok (.iload 4, 2) := by decide +kernel
theorem dX7_busFits_26 : decode cX7_busFits 26 = .ok (.ifCond .lt 11, 3) := by decide +kernel
theorem dX7_busFits_29 : decode cX7_busFits 29 = .ok (.iload 4, 2) := by decide +kernel
theorem dX7_busFits_31 : decode cX7_busFits 31 = .ok (.iload_n 1, 1) := by decide +kernel
theorem dX7_busFits_32 : decode cX7_busFits 32 = .ok (.irem, 1) := by decide +kernel
theorem dX7_busFits_33 : decode cX7_busFits 33 = .ok (.iconst 1, 1) := by decide +kernel
theorem dX7_busFits_34 : decode cX7_busFits 34 = .ok (.if_icmp .le 5, 3) := by decide +kernel
theorem dX7_busFits_37 : decode cX7_busFits 37 = .ok (.iconst 0, 1) := by decide +kernel
theorem dX7_busFits_38 : decode cX7_busFits 38 = .ok (.ireturn, 1) := by decide +kernel
theorem dX7_busFits_39 : decode cX7_busFits 39 = .ok (.iinc 3 1, 3) := by decide +kernel
theorem dX7_busFits_42 : decode cX7_busFits 42 = .ok (.goto (-40), 3) := by decide +kernel
theorem dX7_busFits_45 : decode cX7_busFits 45 = .ok (.iconst 1, 1) := by decide +kernel
theorem dX7_busFits_46 : decode cX7_busFits 46 = .ok (.ireturn, 1) := by decide +kernel
