theorem dX9_init_0 : decode cX9_init 0 = .ok (.aload_n 0, 1) := by decide +kernel
theorem dX9_init_1 : decode cX9_init 1 = .ok (.invokespecial 1, 3) := by decide +kernel
theorem dX9_init_4 : decode cX9_init 4 = .ok (.aload_n 0, 1) := by decide +kernel
theorem dX9_init_5 : decode cX9_init 5 = .ok (.sipush 2217, 3) := by decide +kernel
theorem dX9_init_8 : decode cX9_init 8 = .ok (.newarray .int, 2) := by decide +kernel
theorem dX9_init_10 : decode cX9_init 10 = .ok (.putfield 7, 3) := by decide +kernel
theorem dX9_init_13 : decode cX9_init 13 = .ok (.aload_n 0, 1) := by decide +kernel
theorem dX9_init_14 : decode cX9_init 14 = .ok (.sipush 2217, 3) := by decide +kernel
theorem dX9_init_17 : decode cX9_init 17 = .ok (.newarray .int, 2) := by decide +kernel
theorem dX9_init_19 : decode cX9_init 19 = .ok (.putfield 13, 3) := by decide +kernel
theorem dX9_init_22 : decode cX9_init 22 = .ok (.aload_n 0, 1) := by decide +kernel
theorem dX9_init_23 : decode cX9_init 23 = .ok (.sipush 3288, 3) := by decide +kernel
theorem dX9_init_26 : decode cX9_init 26 = .ok (.newarray .int, 2) := by decide +kernel
theorem dX9_init_28 : decode cX9_init 28 = .ok (.putfield 16, 3) := by decide +kernel
theorem dX9_init_31 : decode cX9_init 31 = .ok (.aload_n 0, 1) := by decide +kernel
theorem dX9_init_32 : decode cX9_init 32 = .ok (.sipush 548, 3) := by decide +kernel
theorem dX9_init_35 : decode cX9_init 35 = .ok (.newarray .int, 2) := by decide +kernel
theorem dX9_init_37 : decode cX9_init 37 = .ok (.putfield 19, 3) := by decide +kernel
theorem dX9_init_40 : decode cX9_init 40 = .ok (.aload_n 0, 1) := by decide +kernel
theorem dX9_init_41 : decode cX9_init 41 = .ok (.bipush 64, 2) := by decide +kernel
theorem dX9_init_43 : decode cX9_init 43 = .ok (.newarray .int, 2) := by decide +kernel
theorem dX9_init_45 : decode cX9_init 45 = .ok (.putfield 22, 3) := by decide +kernel
theorem dX9_init_48 : decode cX9_init 48 = .ok (.aload_n 0, 1) := by decide +kernel
theorem dX9_init_49 : decode cX9_init 49 = .ok (.sipush 820, 3) := by decide +kernel
theorem dX9_init_52 : decode cX9_init 52 = .ok (.newarray .int, 2) := by decide +kernel
theorem dX9_init_54 : decode cX9_init 54 = .ok (.putfield 25, 3) := by decide +kernel
theorem dX9_init_57 : decode cX9_init 57 = .ok (.aload_n 0, 1) := by decide +kernel
theorem dX9_init_58 : decode cX9_init 58 = .ok (.bipush 80, 2) := by decide +kernel
theorem dX9_init_60 : decode cX9_init 60 = .ok (.newarray .int, 2) := by decide +kernel
theorem dX9_init_62 : decode cX9_init 62 = .ok (.putfield 28, 3) := by decide +kernel
theorem dX9_init_65 : decode cX9_init 65 = .ok (.aload_n 0, 1) := by decide +kernel
theorem dX9_init_66 : decode cX9_init 66 = .ok (.sipush 400, 3) := by decide +kernel
theorem dX9_init_69 : decode cX9_init 69 = .ok (.newarray .int, 2) := by decide +kernel
theorem dX9_init_71 : decode cX9_init 71 = .ok (.putfield 31, 3) := by decide +kernel
theorem dX9_init_74 : decode cX9_init 74 = .ok (.aload_n 0, 1) := by decide +kernel
theorem dX9_init_75 : decode cX9_init 75 = .ok (.sipush 420, 3) := by decide +kernel
theorem dX9_init_78 : decode cX9_init 78 = .ok (.newarray .int, 2) := by decide +kernel
theorem dX9_init_80 : decode cX9_init 80 = .ok (.putfield 34, 3) := by decide +kernel
theorem dX9_init_83 : decode cX9_init 83 = .ok (.aload_n 0, 1) := by decide +kernel
theorem dX9_init_84 : decode cX9_init 84 = .ok (.bipush 11, 2) := by decide +kernel
theorem dX9_init_86 : decode cX9_init 86 = .ok (.newarray .int, 2) := by decide +kernel
theorem dX9_init_88 : decode cX9_init 88 = .ok (.putfield 37, 3) := by decide +kernel
theorem dX9_init_91 : decode cX9_init 91 = .ok (.aload_n 0, 1) := by decide +kernel
theorem dX9_init_92 : decode cX9_init 92 = .ok (.iconst (-1), 1) := by decide +kernel
theorem dX9_init_93 : decode cX9_init 93 = .ok (.putfield 40, 3) := by decide +kernel
theorem dX9_init_96 : decode cX9_init 96 = .ok (.aload_n 0, 1) := by decide +kernel
theorem dX9_init_97 : decode cX9_init 97 = .ok (.iconst (-1), 1) := by decide +kernel
theorem dX9_init_98 : decode cX9_init 98 = .ok (.putfield 44, 3) := by decide +kernel
theorem dX9_init_101 : decode cX9_init 101 = .ok (.aload_n 0, 1) := by decide +kernel
theorem dX9_init_102 : decode cX9_init 102 = .ok (.iconst 4, 1) := by decide +kernel
theorem dX9_init_103 : decode cX9_init 103 = .ok (.newarray .int, 2) := by decide +kernel
theorem dX9_init_105 : decode cX9_init 105 = .ok (.putfield 47, 3) := by decide +kernel
theorem dX9_init_108 : decode cX9_init 108 = .ok (.aload_n 0, 1) := by decide +kernel
theorem dX9_init_109 : decode cX9_init 109 = .ok (.bipush 61, 2) := by decide +kernel
theorem dX9_init_111 : decode cX9_init 111 = .ok (.newarray .int, 2) := by decide +kernel
theorem dX9_init_113 : decode cX9_init 113 = .ok (.putfield 50, 3) := by decide +kernel
theorem dX9_init_116 : decode cX9_init 116 = .ok (.aload_n 0, 1) := by decide +kernel
theorem dX9_init_117 : decode cX9_init 117 = .ok (.bipush 60, 2) := by decide +kernel
theorem dX9_init_119 : decode cX9_init 119 = .ok (.newarray .int, 2) := by decide +kernel
theorem dX9_init_121 : decode cX9_init 121 = .ok (.putfield 53, 3) := by decide +kernel
theorem dX9_init_124 : decode cX9_init 124 = .ok (.aload_n 0, 1) := by decide +kernel
theorem dX9_init_125 : decode cX9_init 125 = .ok (.bipush 60, 2) := by decide +kernel
theorem dX9_init_127 : decode cX9_init 127 = .ok (.newarray .int, 2) := by decide +kernel
theorem dX9_init_129 : decode cX9_init 129 = .ok (.putfield 56, 3) := by decide +kernel
theorem dX9_init_132 : decode cX9_init 132 = .ok (.aload_n 0, 1) := by decide +kernel
theorem dX9_init_133 : decode cX9_init 133 = .ok (.bipush 60, 2) := by decide +kernel
theorem dX9_init_135 : decode cX9_init 135 = .ok (.newarray .int, 2) := by decide +kernel
theorem dX9_init_137 : decode cX9_init 137 = .ok (.putfield 59, 3) := by decide +kernel
theorem dX9_init_140 : decode cX9_init 140 = .ok (.aload_n 0, 1) := by decide +kernel
theorem dX9_init_141 : decode cX9_init 141 = .ok (.bipush 60, 2) := by decide +kernel
theorem dX9_init_143 : decode cX9_init 143 = .ok (.newarray .int, 2) := by decide +kernel
theorem dX9_init_145 : decode cX9_init 145 = .ok (.putfield 62, 3) := by decide +kernel
theorem dX9_init_148 : decode cX9_init 148 = .ok (.aload_n 0, 1) := by decide +kernel
theorem dX9_init_149 : decode cX9_init 149 = .ok (.getfield 7, 3) := by decide +kernel
theorem dX9_init_152 : decode cX9_init 152 = .ok (.iconst 4, 1) := by decide +kernel
theorem dX9_init_153 : decode cX9_init 153 = .ok (.bipush 10, 2) := by decide +kernel
theorem dX9_init_155 : decode cX9_init 155 = .ok (.iastore, 1) := by decide +kernel
theorem dX9_init_156 : decode cX9_init 156 = .ok (.aload_n 0, 1) := by decide +kernel
theorem dX9_init_157 : decode cX9_init 157 = .ok (.getfield 7, 3) := by decide +kernel
theorem dX9_init_160 : decode cX9_init 160 = .ok (.iconst 5, 1) := by decide +kernel
theorem dX9_init_161 : decode cX9_init 161 = .ok (.bipush 10, 2) := by decide +kernel
theorem dX9_init_163 : decode cX9_init 163 = .ok (.iastore, 1) := by decide +kernel
theorem dX9_init_164 : decode cX9_init 164 = .ok (.aload_n 0, 1) := by decide +kernel
theorem dX9_init_165 : decode cX9_init 165 = .ok (.getfield 7, 3) := by decide +kernel
theorem dX9_init_168 : decode cX9_init 168 = .ok (.sipush 548, 3) := by decide +kernel
theorem dX9_init_171 : decode cX9_init 171 = .ok (.iconst 1, 1) := by decide +kernel
theorem dX9_init_172 : decode cX9_init 172 = .ok (.iastore, 1) := by decide +kernel
theorem dX9_init_173 : decode cX9_init 173 = .ok (.aload_n 0, 1) := by decide +kernel
theorem dX9_init_174 : decode cX9_init 174 = .ok (.getfield 7, 3) := by decide +kernel
theorem dX9_init_177 : decode cX9_init 177 = .ok (.sipush 549, 3) := by decide +kernel
theorem dX9_init_180 : decode cX9_init 180 = .ok (.iconst 1, 1) := by decide +kernel
theorem dX9_init_181 : decode cX9_init 181 = .ok (.iastore, 1) := by decide +kernel
theorem dX9_init_182 : decode cX9_init 182 = .ok (.return_, 1) := by decide +kernel
theorem dX9_isIn_0 : decode cX9_isIn 0 = .ok (.iload_n 0, 1) := by decide +kernel
theorem dX9_isIn_1 : decode cX9_isIn 1 = .ok (.iload_n 1, 1) := by decide +kernel
theorem dX9_isIn_2 : decode cX9_isIn 2 = .ok (.if_icmp .lt 12, 3) := by decide +kernel
theorem dX9_isIn_5 : decode cX9_isIn 5 = .ok (.iload_n 0, 1) := by decide +kernel
theorem dX9_isIn_6 : decode cX9_isIn 6 = .ok (.iload_n 2, 1) := by decide +kernel
theorem dX9_isIn_7 : decode cX9_isIn 7 = .ok (.if_icmp .gt 7, 3) := by decide +kernel
theorem dX9_isIn_10 : decode cX9_isIn 10 = .ok (.iconst 1, 1) := by decide +kernel
theorem dX9_isIn_11 : decode cX9_isIn 11 = .ok (.goto 4, 3) := by decide +kernel
theorem dX9_isIn_14 : decode cX9_isIn 14 = .ok (.iconst 0, 1) := by decide +kernel
theorem dX9_isIn_15 : decode cX9_isIn 15 = .ok (.ireturn, 1) := by decide +kernel
theorem dX9_lesser_0 : decode cX9_lesser 0 = .ok (.iload_n 0, 1) := by decide +kernel
theorem dX9_lesser_1 : decode cX9_lesser 1 = .ok (.iload_n 1, 1) := by decide +kernel
theorem dX9_lesser_2 : decode cX9_lesser 2 = .ok (.if_icmp .ge 7, 3) := by decide +kernel
theorem dX9_lesser_5 : decode cX9_lesser 5 = .ok (.iload_n 0, 1) := by decide +kernel
theorem dX9_lesser_6 : decode cX9_lesser 6 = .ok (.goto 4, 3) := by decide +kernel
theorem dX9_lesser_9 : decode cX9_lesser 9 = .ok (.iload_n 1, 1) := by decide +kernel
theorem dX9_lesser_10 : decode cX9_lesser 10 = .ok (.ireturn, 1) := by decide +kernel
theorem dX9_greater_0 : decode cX9_greater 0 = .ok (.iload_n 0, 1) := by decide +kernel
theorem dX9_greater_1 : decode cX9_greater 1 = .ok (.iload_n 1, 1) := by decide +kernel
theorem dX9_greater_2 : decode cX9_greater 2 = .ok (.if_icmp .le 7, 3) := by decide +kernel
theorem dX9_greater_5 : decode cX9_greater 5 = .ok (.iload_n 0, 1) := by decide +kernel
theorem dX9_greater_6 : decode cX9_greater 6 = .ok (.goto 4, 3) := by decide +kernel
theorem dX9_greater_9 : decode cX9_greater 9 = .ok (.iload_n 1, 1) := by decide +kernel
theorem dX9_greater_10 : decode cX9_greater 10 = .ok (.ireturn, 1) := by decide +kernel
theorem dX9_size_0 : decode cX9_size 0 = .ok (.iload_n 0, 1) := by decide +kernel
theorem dX9_size_1 : decode cX9_size 1 = .ok (.ifCond .ge 8, 3) := by decide +kernel
theorem dX9_size_4 : decode cX9_size 4 = .ok (.iload_n 0, 1) := by decide +kernel
theorem dX9_size_5 : decode cX9_size 5 = .ok (.ineg, 1) := by decide +kernel
theorem dX9_size_6 : decode cX9_size 6 = .ok (.goto 4, 3) := by decide +kernel
theorem dX9_size_9 : decode cX9_size 9 = .ok (.iload_n 0, 1) := by decide +kernel
theorem dX9_size_10 : decode cX9_size 10 = .ok (.ireturn, 1) := by decide +kernel
theorem dX9_held_0 : decode cX9_held 0 = .ok (.iload_n 1, 1) := by decide +kernel
theorem dX9_held_1 : decode cX9_held 1 = .ok (.iload_n 2, 1) := by decide +kernel
theorem dX9_held_2 : decode cX9_held 2 = .ok (.iload_n 0, 1) := by decide +kernel
theorem dX9_held_3 : decode cX9_held 3 = .ok (.invokestatic 65, 3) := by decide +kernel
theorem dX9_held_6 : decode cX9_held 6 = .ok (.invokestatic 69, 3) := by decide +kernel
theorem dX9_held_9 : decode cX9_held 9 = .ok (.ireturn, 1) := by decide +kernel
theorem dX9_isOne_0 : decode cX9_isOne 0 = .ok (.iload_n 0, 1) := by decide +kernel
theorem dX9_isOne_1 : decode cX9_isOne 1 = .ok (.iconst 0, 1) := by decide +kernel
theorem dX9_isOne_2 : decode cX9_isOne 2 = .ok (.iconst 1, 1) := by decide +kernel
theorem dX9_isOne_3 : decode cX9_isOne 3 = .ok (.invokestatic 72, 3) := by decide +kernel
theorem dX9_isOne_6 : decode cX9_isOne 6 = .ok (.ireturn, 1) := by decide +kernel
theorem dX9_isMessage_0 : decode cX9_isMessage 0 = .ok (.iload_n 1, 1) := by decide +kernel
theorem dX9_isMessage_1 : decode cX9_isMessage 1 = .ok (.iconst 0, 1) := by decide +kernel
theorem dX9_isMessage_2 : decode cX9_isMessage 2 = .ok (.aload_n 0, 1) := by decide +kernel
theorem dX9_isMessage_3 : decode cX9_isMessage 3 = .ok (.getfield 7, 3) := by decide +kernel
theorem dX9_isMessage_6 : decode cX9_isMessage 6 = .ok (.iconst 3, 1) := by decide +kernel
theorem dX9_isMessage_7 : decode cX9_isMessage 7 = .ok (.iaload, 1) := by decide +kernel
theorem dX9_isMessage_8 : decode cX9_isMessage 8 = .ok (.iconst 1, 1) := by decide +kernel
theorem dX9_isMessage_9 : decode cX9_isMessage 9 = .ok (.isub, 1) := by decide +kernel
theorem dX9_isMessage_10 : decode cX9_isMessage 10 = .ok (.invokestatic 72, 3) := by decide +kernel
theorem dX9_isMessage_13 : decode cX9_isMessage 13 = .ok (.ireturn, 1) := by decide +kernel
theorem dX9_of0_0 : decode cX9_of0 0 = .ok (.aload_n 0, 1) := by decide +kernel
theorem dX9_of0_1 : decode cX9_of0 1 = .ok (.getfield 7, 3) := by decide +kernel
theorem dX9_of0_4 : decode cX9_of0 4 = .ok (.bipush 8, 2) := by decide +kernel
theorem dX9_of0_6 : decode cX9_of0 6 = .ok (.bipush 9, 2) := by decide +kernel
theorem dX9_of0_8 : decode cX9_of0 8 = .ok (.iload_n 1, 1) := by decide +kernel
theorem dX9_of0_9 : decode cX9_of0 9 = .ok (.imul, 1) := by decide +kernel
theorem dX9_of0_10 : decode cX9_of0 10 = .ok (.iadd, 1) := by decide +kernel
theorem dX9_of0_11 : decode cX9_of0 11 = .ok (.iload_n 2, 1) := by decide +kernel
theorem dX9_of0_12 : decode cX9_of0 12 = .ok (.iadd, 1) := by decide +kernel
theorem dX9_of0_13 : decode cX9_of0 13 = .ok (.iaload, 1) := by decide +kernel
theorem dX9_of0_14 : decode cX9_of0 14 = .ok (.ireturn, 1) := by decide +kernel
theorem dX9_puts0_0 : decode cX9_puts0 0 = .ok (.aload_n 0, 1) := by decide +kernel
theorem dX9_puts0_1 : decode cX9_puts0 1 = .ok (.getfield 7, 3) := by decide +kernel
theorem dX9_puts0_4 : decode cX9_puts0 4 = .ok (.bipush 8, 2) := by decide +kernel
theorem dX9_puts0_6 : decode cX9_puts0 6 = .ok (.bipush 9, 2) := by decide +kernel
theorem dX9_puts0_8 : decode cX9_puts0 8 = .ok (.iload_n 1, 1) := by decide +kernel
theorem dX9_puts0_9 : decode cX9_puts0 9 = .ok (.imul, 1) := by decide +kernel
theorem dX9_puts0_10 : decode cX9_puts0 10 = .ok (.iadd, 1) := by decide +kernel
theorem dX9_puts0_11 : decode cX9_puts0 11 = .ok (.iload_n 2, 1) := by decide +kernel
theorem dX9_puts0_12 : decode cX9_puts0 12 = .ok (.iadd, 1) := by decide +kernel
theorem dX9_puts0_13 : decode cX9_puts0 13 = .ok (.iload_n 3, 1) := by decide +kernel
theorem dX9_puts0_14 : decode cX9_puts0 14 = .ok (.iastore, 1) := by decide +kernel
theorem dX9_puts0_15 : decode cX9_puts0 15 = .ok (.return_, 1) := by decide +kernel
theorem dX9_isBack_0 : decode cX9_isBack 0 = .ok (.aload_n 0, 1) := by decide +kernel
theorem dX9_isBack_1 : decode cX9_isBack 1 = .ok (.iload_n 1, 1) := by decide +kernel
theorem dX9_isBack_2 : decode cX9_isBack 2 = .ok (.bipush 7, 2) := by decide +kernel
theorem dX9_isBack_4 : decode cX9_isBack 4 = .ok (.invokevirtual 76, 3) := by decide +kernel
theorem dX9_isBack_7 : decode cX9_isBack 7 = .ok (.iconst 1, 1) := by decide +kernel
theorem dX9_isBack_8 : decode cX9_isBack 8 = .ok (.if_icmp .ne 7, 3) := by decide +kernel
theorem dX9_isBack_11 : decode cX9_isBack 11 = .ok (.iconst 1, 1) := by decide +kernel
theorem dX9_isBack_12 : decode cX9_isBack 12 = .ok (.goto 4, 3) := by decide +kernel
theorem dX9_isBack_15 : decode cX9_isBack 15 = .ok (.iconst 0, 1) := by decide +kernel
theorem dX9_isBack_16 : decode cX9_isBack 16 = .ok (.ireturn, 1) := by decide +kernel
theorem dX9_isUnread_0 : decode cX9_isUnread 0 = .ok (.aload_n 0, 1) := by decide +kernel
theorem dX9_isUnread_1 : decode cX9_isUnread 1 = .ok (.iload_n 1, 1) := by decide +kernel
theorem dX9_isUnread_2 : decode cX9_isUnread 2 = .ok (.iconst 2, 1) := by decide +kernel
theorem dX9_isUnread_3 : decode cX9_isUnread 3 = .ok (.invokevirtual 76, 3) := by decide +kernel
theorem dX9_isUnread_6 : decode cX9_isUnread 6 = .ok (.iconst (-1), 1) := by decide +kernel
theorem dX9_isUnread_7 : decode cX9_isUnread 7 = .ok (.if_icmp .ne 15, 3) := by decide +kernel
theorem dX9_isUnread_10 : decode cX9_isUnread 10 = .ok (.aload_n 0, 1) := by decide +kernel
theorem dX9_isUnread_11 : decode cX9_isUnread 11 = .ok (.iload_n 1, 1) := by decide +kernel
theorem dX9_isUnread_12 : decode cX9_isUnread 12 = .ok (.invokevirtual 79, 3) := by decide +kernel
theorem dX9_isUnread_15 : decode cX9_isUnread 15 = .ok (.ifCond .ne 7, 3) := by decide +kernel
theorem dX9_isUnread_18 : decode cX9_isUnread 18 = .ok (.iconst 1, 1) := by decide +kernel
theorem dX9_isUnread_19 : decode cX9_isUnread 19 = .ok (.goto 4, 3) := by decide +kernel
theorem dX9_isUnread_22 : decode cX9_isUnread 22 = .ok (.iconst 0, 1) := by decide +kernel
theorem dX9_isUnread_23 : decode cX9_isUnread 23 = .ok (.ireturn, 1) := by decide +kernel
theorem dX9_goesTo_0 : decode cX9_goesTo 0 = .ok (.iconst 1, 1) := by decide +kernel
theorem dX9_goesTo_1 : decode cX9_goesTo 1 = .ok (.aload_n 0, 1) := by decide +kernel
theorem dX9_goesTo_2 : decode cX9_goesTo 2 = .ok (.iload_n 1, 1) := by decide +kernel
theorem dX9_goesTo_3 : decode cX9_goesTo 3 = .ok (.iconst 0, 1) := by decide +kernel
theorem dX9_goesTo_4 : decode cX9_goesTo 4 = .ok (.invokevirtual 76, 3) := by decide +kernel
theorem dX9_goesTo_7 : decode cX9_goesTo 7 = .ok (.isub, 1) := by decide +kernel
theorem dX9_goesTo_8 : decode cX9_goesTo 8 = .ok (.ireturn, 1) := by decide +kernel
theorem dX9_hourNow_0 : decode cX9_hourNow 0 = .ok (.aload_n 0, 1) := by decide +kernel
theorem dX9_hourNow_1 : decode cX9_hourNow 1 = .ok (.getfield 7, 3) := by decide +kernel
theorem dX9_hourNow_4 : decode cX9_hourNow 4 = .ok (.iconst 0, 1) := by decide +kernel
theorem dX9_hourNow_5 : decode cX9_hourNow 5 = .ok (.iaload, 1) := by decide +kernel
theorem dX9_hourNow_6 : decode cX9_hourNow 6 = .ok (.bipush 60, 2) := by decide +kernel
theorem dX9_hourNow_8 : decode cX9_hourNow 8 = .ok (.idiv, 1) := by decide +kernel
theorem dX9_hourNow_9 : decode cX9_hourNow 9 = .ok (.bipush 24, 2) := by decide +kernel
theorem dX9_hourNow_11 : decode cX9_hourNow 11 = .ok (.irem, 1) := by decide +kernel
theorem dX9_hourNow_12 : decode cX9_hourNow 12 = .ok (.ireturn, 1) := by decide +kernel
theorem dX9_forgets_0 : decode cX9_forgets 0 = .ok (.aload_n 0, 1) := by decide +kernel
theorem dX9_forgets_1 : decode cX9_forgets 1 = .ok (.iconst 0, 1) := by decide +kernel
theorem dX9_forgets_2 : decode cX9_forgets 2 = .ok (.putfield 83, 3) := by decide +kernel
theorem dX9_forgets_5 : decode cX9_forgets 5 = .ok (.return_, 1) := by decide +kernel
theorem dX9_state_0 : decode cX9_state 0 = .ok (.aload_n 0, 1) := by decide +kernel
theorem dX9_state_1 : decode cX9_state 1 = .ok (.getfield 7, 3) := by decide +kernel
theorem dX9_state_4 : decode cX9_state 4 = .ok (.iconst 1, 1) := by decide +kernel
theorem dX9_state_5 : decode cX9_state 5 = .ok (.iaload, 1) := by decide +kernel
theorem dX9_state_6 : decode cX9_state 6 = .ok (.istore_n 2, 1) := by decide +kernel
theorem dX9_state_7 : decode cX9_state 7 = .ok (.aload_n 0, 1) := by decide +kernel
theorem dX9_state_8 : decode cX9_state 8 = .ok (.getfield 7, 3) := by decide +kernel
theorem dX9_state_11 : decode cX9_state 11 = .ok (.iconst 1, 1) := by decide +kernel
theorem dX9_state_12 : decode cX9_state 12 = .ok (.iload_n 1, 1) := by decide +kernel
theorem dX9_state_13 : decode cX9_state 13 = .ok (.iastore, 1) := by decide +kernel
theorem dX9_state_14 : decode cX9_state 14 = .ok (.aload_n 0, 1) := by decide +kernel
theorem dX9_state_15 : decode cX9_state 15 = .ok (.invokevirtual 86, 3) := by decide +kernel
theorem dX9_state_18 : decode cX9_state 18 = .ok (.iload_n 2, 1) := by decide +kernel
theorem dX9_state_19 : decode cX9_state 19 = .ok (.ireturn, 1) := by decide +kernel
theorem dX9_draw_0 : decode cX9_draw 0 = .ok (.aload_n 0, 1) := by decide +kernel
theorem dX9_draw_1 : decode cX9_draw 1 = .ok (.getfield 7, 3) := by decide +kernel
theorem dX9_draw_4 : decode cX9_draw 4 = .ok (.iconst 1, 1) := by decide +kernel
theorem dX9_draw_5 : decode cX9_draw 5 = .ok (.ldc 89, 2) := by decide +kernel
theorem dX9_draw_7 : decode cX9_draw 7 = .ok (.aload_n 0, 1) := by decide +kernel
theorem dX9_draw_8 : decode cX9_draw 8 = .ok (.getfield 7, 3) := by decide +kernel
theorem dX9_draw_11 : decode cX9_draw 11 = .ok (.iconst 1, 1) := by decide +kernel
theorem dX9_draw_12 : decode cX9_draw 12 = .ok (.iaload, 1) := by decide +kernel
theorem dX9_draw_13 : decode cX9_draw 13 = .ok (.imul, 1) := by decide +kernel
theorem dX9_draw_14 : decode cX9_draw 14 = .ok (.ldc 90, 2) := by decide +kernel
theorem dX9_draw_16 : decode cX9_draw 16 = .ok (.iadd, 1) := by decide +kernel
theorem dX9_draw_17 : decode cX9_draw 17 = .ok (.iastore, 1) := by decide +kernel
theorem dX9_draw_18 : decode cX9_draw 18 = .ok (.aload_n 0, 1) := by decide +kernel
theorem dX9_draw_19 : decode cX9_draw 19 = .ok (.getfield 7, 3) := by decide +kernel
theorem dX9_draw_22 : decode cX9_draw 22 = .ok (.iconst 1, 1) := by decide +kernel
theorem dX9_draw_23 : decode cX9_draw 23 = .ok (.iaload, 1) := by decide +kernel
theorem dX9_draw_24 : decode cX9_draw 24 = .ok (.bipush 8, 2) := by decide +kernel
theorem dX9_draw_26 : decode cX9_draw 26 = .ok (.iushr, 1) := by decide +kernel
theorem dX9_draw_27 : decode cX9_draw 27 = .ok (.iload_n 1, 1) := by decide +kernel
theorem dX9_draw_28 : decode cX9_draw 28 = .ok (.irem, 1) := by decide +kernel
theorem dX9_draw_29 : decode cX9_draw 29 = .ok (.ireturn, 1) := by decide +kernel
theorem dX9_set_0 : decode cX9_set 0 = .ok (.iload_n 1, 1) := by decide +kernel
theorem dX9_set_1 : decode cX9_set 1 = .ok (.tableswitch 157 0 3 #[31, 61, 92, 125], 31) := by decide +kernel
theorem dX9_set_32 : decode cX9_set 32 = .ok (.iload_n 3, 1) := by decide +kernel
theorem dX9_set_33 : decode cX9_set 33 = .ok (.iconst 0, 1) := by decide +kernel
theorem dX9_set_34 : decode cX9_set 34 = .ok (.sipush 9999, 3) := by decide +kernel
theorem dX9_set_37 : decode cX9_set 37 = .ok (.invokestatic 72, 3) := by decide +kernel
theorem dX9_set_40 : decode cX9_set 40 = .ok (.ifCond .ne 5, 3) := by decide +kernel
theorem dX9_set_43 : decode cX9_set 43 = .ok (.iconst 0, 1) := by decide +kernel
theorem dX9_set_44 : decode cX9_set 44 = .ok (.ireturn, 1) := by decide +kernel
theorem dX9_set_45 : decode cX9_set 45 = .ok (.aload_n 0, 1) := by decide +kernel
theorem dX9_set_46 : decode cX9_set 46 = .ok (.getfield 7, 3) := by decide +kernel
theorem dX9_set_49 : decode cX9_set 49 = .ok (.iconst 0, 1) := by decide +kernel
theorem dX9_set_50 : decode cX9_set 50 = .ok (.iload_n 3, 1) := by decide +kernel
theorem dX9_set_51 : decode cX9_set 51 = .ok (.iastore, 1) := by decide +kernel
theorem dX9_set_52 : decode cX9_set 52 = .ok (.aload_n 0, 1) := by decide +kernel
theorem dX9_set_53 : decode cX9_set 53 = .ok (.getfield 7, 3) := by decide +kernel
theorem dX9_set_56 : decode cX9_set 56 = .ok (.iconst 3, 1) := by decide +kernel
theorem dX9_set_57 : decode cX9_set 57 = .ok (.iconst 0, 1) := by decide +kernel
theorem dX9_set_58 : decode cX9_set 58 = .ok (.iastore, 1) := by decide +kernel
theorem dX9_set_59 : decode cX9_set 59 = .ok (.goto 101, 3) := by decide +kernel
theorem dX9_set_62 : decode cX9_set 62 = .ok (.iload_n 2, 1) := by decide +kernel
theorem dX9_set_63 : decode cX9_set 63 = .ok (.invokestatic 91, 3) := by decide +kernel
theorem dX9_set_66 : decode cX9_set 66 = .ok (.ifCond .eq 13, 3) := by decide +kernel
theorem dX9_set_69 : decode cX9_set 69 = .ok (.iload_n 3, 1) := by decide +kernel
theorem dX9_set_70 : decode cX9_set 70 = .ok (.iconst 0, 1) := by decide +kernel
theorem dX9_set_71 : decode cX9_set 71 = .ok (.bipush 99, 2) := by decide +kernel
theorem dX9_set_73 : decode cX9_set 73 = .ok (.invokestatic 72, 3) := by decide +kernel
theorem dX9_set_76 : decode cX9_set 76 = .ok (.ifCond .ne 5, 3) := by decide +kernel
theorem dX9_set_79 : decode cX9_set 79 = .ok (.iconst 0, 1) := by decide +kernel
theorem dX9_set_80 : decode cX9_set 80 = .ok (.ireturn, 1) := by decide +kernel
theorem dX9_set_81 : decode cX9_set 81 = .ok (.aload_n 0, 1) := by decide +kernel
theorem dX9_set_82 : decode cX9_set 82 = .ok (.getfield 7, 3) := by decide +kernel
theorem dX9_set_85 : decode cX9_set 85 = .ok (.iconst 4, 1) := by decide +kernel
theorem dX9_set_86 : decode cX9_set 86 = .ok (.iload_n 2, 1) := by decide +kernel
theorem dX9_set_87 : decode cX9_set 87 = .ok (.iadd, 1) := by decide +kernel
theorem dX9_set_88 : decode cX9_set 88 = .ok (.iload_n 3, 1) := by decide +kernel
theorem dX9_set_89 : decode cX9_set 89 = .ok (.iastore, 1) := by decide +kernel
theorem dX9_set_90 : decode cX9_set 90 = .ok (.goto 70, 3) := by decide +kernel
theorem dX9_set_93 : decode cX9_set 93 = .ok (.iload_n 2, 1) := by decide +kernel
theorem dX9_set_94 : decode cX9_set 94 = .ok (.invokestatic 91, 3) := by decide +kernel
theorem dX9_set_97 : decode cX9_set 97 = .ok (.ifCond .eq 14, 3) := by decide +kernel
theorem dX9_set_100 : decode cX9_set 100 = .ok (.iload_n 3, 1) := by decide +kernel
theorem dX9_set_101 : decode cX9_set 101 = .ok (.iconst 0, 1) := by decide +kernel
theorem dX9_set_102 : decode cX9_set 102 = .ok (.sipush 9999, 3) := by decide +kernel
theorem dX9_set_105 : decode cX9_set 105 = .ok (.invokestatic 72, 3) := by decide +kernel
theorem dX9_set_108 : decode cX9_set 108 = .ok (.ifCond .ne 5, 3) := by decide +kernel
theorem dX9_set_111 : decode cX9_set 111 = .ok (.iconst 0, 1) := by decide +kernel
theorem dX9_set_112 : decode cX9_set 112 = .ok (.ireturn, 1) := by decide +kernel
theorem dX9_set_113 : decode cX9_set 113 = .ok (.aload_n 0, 1) := by decide +kernel
theorem dX9_set_114 : decode cX9_set 114 = .ok (.getfield 7, 3) := by decide +kernel
theorem dX9_set_117 : decode cX9_set 117 = .ok (.bipush 6, 2) := by decide +kernel
theorem dX9_set_119 : decode cX9_set 119 = .ok (.iload_n 2, 1) := by decide +kernel
theorem dX9_set_120 : decode cX9_set 120 = .ok (.iadd, 1) := by decide +kernel
theorem dX9_set_121 : decode cX9_set 121 = .ok (.iload_n 3, 1) := by decide +kernel
theorem dX9_set_122 : decode cX9_set 122 = .ok (.iastore, 1) := by decide +kernel
theorem dX9_set_123 : decode cX9_set 123 = .ok (.goto 37, 3) := by decide +kernel
theorem dX9_set_126 : decode cX9_set 126 = .ok (.iload_n 2, 1) := by decide +kernel
theorem dX9_set_127 : decode cX9_set 127 = .ok (.invokestatic 91, 3) := by decide +kernel
theorem dX9_set_130 : decode cX9_set 130 = .ok (.ifCond .eq 12, 3) := by decide +kernel
theorem dX9_set_133 : decode cX9_set 133 = .ok (.iload_n 3, 1) := by decide +kernel
theorem dX9_set_134 : decode cX9_set 134 = .ok (.iconst 0, 1) := by decide +kernel
theorem dX9_set_135 : decode cX9_set 135 = .ok (.iconst 1, 1) := by decide +kernel
theorem dX9_set_136 : decode cX9_set 136 = .ok (.invokestatic 72, 3) := by decide +kernel
theorem dX9_set_139 : decode cX9_set 139 = .ok (.ifCond .ne 5, 3) := by decide +kernel
theorem dX9_set_142 : decode cX9_set 142 = .ok (.iconst 0, 1) := by decide +kernel
theorem dX9_set_143 : decode cX9_set 143 = .ok (.ireturn, 1) := by decide +kernel
theorem dX9_set_144 : decode cX9_set 144 = .ok (.aload_n 0, 1) := by decide +kernel
theorem dX9_set_145 : decode cX9_set 145 = .ok (.getfield 7, 3) := by decide +kernel
theorem dX9_set_148 : decode cX9_set 148 = .ok (.sipush 548, 3) := by decide +kernel
theorem dX9_set_151 : decode cX9_set 151 = .ok (.iload_n 2, 1) := by decide +kernel
theorem dX9_set_152 : decode cX9_set 152 = .ok (.iadd, 1) := by decide +kernel
theorem dX9_set_153 : decode cX9_set 153 = .ok (.iload_n 3, 1) := by decide +kernel
theorem dX9_set_154 : decode cX9_set 154 = .ok (.iastore, 1) := by decide +kernel
theorem dX9_set_155 : decode cX9_set 155 = .ok (.goto 5, 3) := by decide +kernel
theorem dX9_set_158 : decode cX9_set 158 = .ok (.iconst 0, 1) := by decide +kernel
theorem dX9_set_159 : decode cX9_set 159 = .ok (.ireturn, 1) := by decide +kernel
theorem dX9_set_160 : decode cX9_set 160 = .ok (.aload_n 0, 1) := by decide +kernel
theorem dX9_set_161 : decode cX9_set 161 = .ok (.invokevirtual 86, 3) := by decide +kernel
theorem dX9_set_164 : decode cX9_set 164 = .ok (.iconst 1, 1) := by decide +kernel
theorem dX9_set_165 : decode cX9_set 165 = .ok (.ireturn, 1) := by decide +kernel
theorem dX9_feed_0 : decode cX9_feed 0 = .ok (.aload_n 0, 1) := by decide +kernel
theorem dX9_feed_1 : decode cX9_feed 1 = .ok (.getfield 94, 3) := by decide +kernel
theorem dX9_feed_4 : decode cX9_feed 4 = .ok (.bipush 20, 2) := by decide +kernel
theorem dX9_feed_6 : decode cX9_feed 6 = .ok (.iadd, 1) := by decide +kernel
theorem dX9_feed_7 : decode cX9_feed 7 = .ok (.sipush 400, 3) := by decide +kernel
theorem dX9_feed_10 : decode cX9_feed 10 = .ok (.if_icmp .le 5, 3) := by decide +kernel
theorem dX9_feed_13 : decode cX9_feed 13 = .ok (.iconst (-1), 1) := by decide +kernel
theorem dX9_feed_14 : decode cX9_feed 14 = .ok (.ireturn, 1) := by decide +kernel
theorem dX9_feed_15 : decode cX9_feed 15 = .ok (.iconst 0, 1) := by decide +kernel
theorem dX9_feed_16 : decode cX9_feed 16 = .ok (.istore 6, 2) := by decide +kernel
theorem dX9_feed_18 : decode cX9_feed 18 = .ok (.iload 6, 2) := by decide +kernel
theorem dX9_feed_20 : decode cX9_feed 20 = .ok (.bipush 20, 2) := by decide +kernel
theorem dX9_feed_22 : decode cX9_feed 22 = .ok (.if_icmp .ge 93, 3) := by decide +kernel
theorem dX9_feed_25 : decode cX9_feed 25 = .ok (.iload 6, 2) := by decide +kernel
theorem dX9_feed_27 : decode cX9_feed 27 = .ok (.iconst 4, 1) := by decide +kernel
theorem dX9_feed_28 : decode cX9_feed 28 = .ok (.if_icmp .ge 7, 3) := by decide +kernel
theorem dX9_feed_31 : decode cX9_feed 31 = .ok (.iload_n 1, 1) := by decide +kernel
theorem dX9_feed_32 : decode cX9_feed 32 = .ok (.goto 39, 3) := by decide +kernel
theorem dX9_feed_35 : decode cX9_feed 35 = .ok (.iload 6, 2) := by decide +kernel
theorem dX9_feed_37 : decode cX9_feed 37 = .ok (.bipush 8, 2) := by decide +kernel
theorem dX9_feed_39 : decode cX9_feed 39 = .ok (.if_icmp .ge 7, 3) := by decide +kernel
theorem dX9_feed_42 : decode cX9_feed 42 = .ok (.iload_n 2, 1) := by decide +kernel
theorem dX9_feed_43 : decode cX9_feed 43 = .ok (.goto 28, 3) := by decide +kernel
theorem dX9_feed_46 : decode cX9_feed 46 = .ok (.iload 6, 2) := by decide +kernel
theorem dX9_feed_48 : decode cX9_feed 48 = .ok (.bipush 12, 2) := by decide +kernel
theorem dX9_feed_50 : decode cX9_feed 50 = .ok (.if_icmp .ge 7, 3) := by decide +kernel
theorem dX9_feed_53 : decode cX9_feed 53 = .ok (.iload_n 3, 1) := by decide +kernel
theorem dX9_feed_54 : decode cX9_feed 54 = .ok (.goto 17, 3) := by decide +kernel
theorem dX9_feed_57 : decode cX9_feed 57 = .ok (.iload 6, 2) := by decide +kernel
theorem dX9_feed_59 : decode cX9_feed 59 = .ok (.bipush 16, 2) := by decide +kernel
theorem dX9_feed_61 : decode cX9_feed 61 = .ok (.if_icmp .ge 8, 3) := by decide +kernel
theorem dX9_feed_64 : decode cX9_feed 64 = .ok (.iload 4, 2) := by decide +kernel
theorem dX9_feed_66 : decode cX9_feed 66 = .ok (.goto 5, 3) := by decide +kernel
theorem dX9_feed_69 : decode cX9_feed 69 = .ok (.iload 5, 2) := by decide +kernel
theorem dX9_feed_71 : decode cX9_feed 71 = .ok (.istore 7, 2) := by decide +kernel
theorem dX9_feed_73 : decode cX9_feed 73 = .ok (.aload_n 0, 1) := by decide +kernel
theorem dX9_feed_74 : decode cX9_feed 74 = .ok (.getfield 31, 3) := by decide +kernel
theorem dX9_feed_77 : decode cX9_feed 77 = .ok (.aload_n 0, 1) := by decide +kernel
theorem dX9_feed_78 : decode cX9_feed 78 = .ok (.getfield 94, 3) := by decide +kernel
theorem dX9_feed_81 : decode cX9_feed 81 = .ok (.iload 7, 2) := by decide +kernel
theorem dX9_feed_83 : decode cX9_feed 83 = .ok (.bipush 24, 2) := by decide +kernel
theorem dX9_feed_85 : decode cX9_feed 85 = .ok (.bipush 8, 2) := by decide +kernel
theorem dX9_feed_87 : decode cX9_feed 87 = .ok (.iload 6, 2) := by decide +kernel
theorem dX9_feed_89 : decode cX9_feed 89 = .ok (.iconst 4, 1) := by decide +kernel
theorem dX9_feed_90 : decode cX9_feed 90 = .ok (.irem, 1) := by decide +kernel
theorem dX9_feed_91 : decode cX9_feed 91 = .ok (.imul, 1) := by decide +kernel
theorem dX9_feed_92 : decode cX9_feed 92 = .ok (.isub, 1) := by decide +kernel
theorem dX9_feed_93 : decode cX9_feed 93 = .ok (.ishr, 1) := by decide +kernel
theorem dX9_feed_94 : decode cX9_feed 94 = .ok (.sipush 255, 3) := by decide +kernel
theorem dX9_feed_97 : decode cX9_feed 97 = .ok (.iand, 1) := by decide +kernel
theorem dX9_feed_98 : decode cX9_feed 98 = .ok (.iastore, 1) := by decide +kernel
theorem dX9_feed_99 : decode cX9_feed 99 = .ok (.aload_n 0, 1) := by decide +kernel
theorem dX9_feed_100 : decode cX9_feed 100 = .ok (.dup, 1) := by decide +kernel
theorem dX9_feed_101 : decode cX9_feed 101 = .ok (.getfield 94, 3) := by decide +kernel
theorem dX9_feed_104 : decode cX9_feed 104 = .ok (.iconst 1, 1) := by decide +kernel
theorem dX9_feed_105 : decode cX9_feed 105 = .ok (.iadd, 1) := by decide +kernel
theorem dX9_feed_106 : decode cX9_feed 106 = .ok (.putfield 94, 3) := by decide +kernel
theorem dX9_feed_109 : decode cX9_feed 109 = .ok (.iinc 6 1, 3) := by decide +kernel
theorem dX9_feed_112 : decode cX9_feed 112 = .ok (.goto (-94), 3) := by decide +kernel
theorem dX9_feed_115 : decode cX9_feed 115 = .ok (.aload_n 0, 1) := by decide +kernel
theorem dX9_feed_116 : decode cX9_feed 116 = .ok (.getfield 94, 3) := by decide +kernel
theorem dX9_feed_119 : decode cX9_feed 119 = .ok (.ireturn, 1) := by decide +kernel
theorem dX9_end_0 : decode cX9_end 0 = .ok (.iload_n 1, 1) := by decide +kernel
theorem dX9_end_1 : decode cX9_end 1 = .ok (.iconst 0, 1) := by decide +kernel
theorem dX9_end_2 : decode cX9_end 2 = .ok (.aload_n 0, 1) := by decide +kernel
theorem dX9_end_3 : decode cX9_end 3 = .ok (.getfield 94, 3) := by decide +kernel
theorem dX9_end_6 : decode cX9_end 6 = .ok (.invokestatic 72, 3) := by decide +kernel
theorem dX9_end_9 : decode cX9_end 9 = .ok (.ifCond .ne 5, 3) := by decide +kernel
theorem dX9_end_12 : decode cX9_end 12 = .ok (.iconst 0, 1) := by decide +kernel
theorem dX9_end_13 : decode cX9_end 13 = .ok (.ireturn, 1) := by decide +kernel
theorem dX9_end_14 : decode cX9_end 14 = .ok (.aload_n 0, 1) := by decide +kernel
theorem dX9_end_15 : decode cX9_end 15 = .ok (.iload_n 1, 1) := by decide +kernel
theorem dX9_end_16 : decode cX9_end 16 = .ok (.putfield 94, 3) := by decide +kernel
theorem dX9_end_19 : decode cX9_end 19 = .ok (.iconst 1, 1) := by decide +kernel
theorem dX9_end_20 : decode cX9_end 20 = .ok (.ireturn, 1) := by decide +kernel
theorem dX9_see_0 : decode cX9_see 0 = .ok (.iload_n 1, 1) := by decide +kernel
theorem dX9_see_1 : decode cX9_see 1 = .ok (.aload_n 0, 1) := by decide +kernel
theorem dX9_see_2 : decode cX9_see 2 = .ok (.getfield 94, 3) := by decide +kernel
theorem dX9_see_5 : decode cX9_see 5 = .ok (.if_icmp .ge 12, 3) := by decide +kernel
theorem dX9_see_8 : decode cX9_see 8 = .ok (.aload_n 0, 1) := by decide +kernel
theorem dX9_see_9 : decode cX9_see 9 = .ok (.getfield 31, 3) := by decide +kernel
theorem dX9_see_12 : decode cX9_see 12 = .ok (.iload_n 1, 1) := by decide +kernel
theorem dX9_see_13 : decode cX9_see 13 = .ok (.iaload, 1) := by decide +kernel
theorem dX9_see_14 : decode cX9_see 14 = .ok (.goto 4, 3) := by decide +kernel
theorem dX9_see_17 : decode cX9_see 17 = .ok (.iconst (-1), 1) := by decide +kernel
theorem dX9_see_18 : decode cX9_see 18 = .ok (.ireturn, 1) := by decide +kernel
theorem dX9_isLetter_0 : decode cX9_isLetter 0 = .ok (.iload_n 0, 1) := by decide +kernel
theorem dX9_isLetter_1 : decode cX9_isLetter 1 = .ok (.bipush 97, 2) := by decide +kernel
theorem dX9_isLetter_3 : decode cX9_isLetter 3 = .ok (.bipush 122, 2) := by decide +kernel
theorem dX9_isLetter_5 : decode cX9_isLetter 5 = .ok (.invokestatic 72, 3) := by decide +kernel
theorem dX9_isLetter_8 : decode cX9_isLetter 8 = .ok (.ifCond .ne 14, 3) := by decide +kernel
theorem dX9_isLetter_11 : decode cX9_isLetter 11 = .ok (.iload_n 0, 1) := by decide +kernel
theorem dX9_isLetter_12 : decode cX9_isLetter 12 = .ok (.bipush 65, 2) := by decide +kernel
theorem dX9_isLetter_14 : decode cX9_isLetter 14 = .ok (.bipush 90, 2) := by decide +kernel
theorem dX9_isLetter_16 : decode cX9_isLetter 16 = .ok (.invokestatic 72, 3) := by decide +kernel
theorem dX9_isLetter_19 : decode cX9_isLetter 19 = .ok (.ifCond .eq 7, 3) := by decide +kernel
theorem dX9_isLetter_22 : decode cX9_isLetter 22 = .ok (.iconst 1, 1) := by decide +kernel
theorem dX9_isLetter_23 : decode cX9_isLetter 23 = .ok (.goto 4, 3) := by decide +kernel
theorem dX9_isLetter_26 : decode cX9_isLetter 26 = .ok (.iconst 0, 1) := by decide +kernel
theorem dX9_isLetter_27 : decode cX9_isLetter 27 = .ok (.ireturn, 1) := by decide +kernel
theorem dX9_isDigit_0 : decode cX9_isDigit 0 = .ok (.iload_n 0, 1) := by decide +kernel
theorem dX9_isDigit_1 : decode cX9_isDigit 1 = .ok (.bipush 48, 2) := by decide +kernel
theorem dX9_isDigit_3 : decode cX9_isDigit 3 = .ok (.bipush 57, 2) := by decide +kernel
theorem dX9_isDigit_5 : decode cX9_isDigit 5 = .ok (.invokestatic 72, 3) := by decide +kernel
theorem dX9_isDigit_8 : decode cX9_isDigit 8 = .ok (.ireturn, 1) := by decide +kernel
theorem dX9_is_0 : decode cX9_is 0 = .ok (.aload_n 0, 1) := by decide +kernel
theorem dX9_is_1 : decode cX9_is 1 = .ok (.getfield 97, 3) := by decide +kernel
theorem dX9_is_4 : decode cX9_is 4 = .ok (.aload_n 0, 1) := by decide +kernel
theorem dX9_is_5 : decode cX9_is 5 = .ok (.getfield 100, 3) := by decide +kernel
theorem dX9_is_8 : decode cX9_is 8 = .ok (.isub, 1) := by decide +kernel
theorem dX9_is_9 : decode cX9_is 9 = .ok (.aload_n 1, 1) := by decide +kernel
theorem dX9_is_10 : decode cX9_is 10 = .ok (.invokevirtual 103, 3) := by decide +kernel
theorem dX9_is_13 : decode cX9_is 13 = .ok (.if_icmp .ne 7, 3) := by decide +kernel
theorem dX9_is_16 : decode cX9_is 16 = .ok (.iconst 1, 1) := by decide +kernel
theorem dX9_is_17 : decode cX9_is 17 = .ok (.goto 4, 3) := by decide +kernel
theorem dX9_is_20 : decode cX9_is 20 = .ok (.iconst 0, 1) := by decide +kernel
theorem dX9_is_21 : decode cX9_is 21 = .ok (.istore_n 2, 1) := by decide +kernel
theorem dX9_is_22 : decode cX9_is 22 = .ok (.iconst 0, 1) := by decide +kernel
theorem dX9_is_23 : decode cX9_is 23 = .ok (.istore_n 3, 1) := by decide +kernel
theorem dX9_is_24 : decode cX9_is 24 = .ok (.iload_n 3, 1) := by decide +kernel
theorem dX9_is_25 : decode cX9_is 25 = .ok (.aload_n 1, 1) := by decide +kernel
theorem dX9_is_26 : decode cX9_is 26 = .ok (.invokevirtual 103, 3) := by decide +kernel
theorem dX9_is_29 : decode cX9_is 29 = .ok (.if_icmp .ge 38, 3) := by decide +kernel
theorem dX9_is_32 : decode cX9_is 32 = .ok (.iload_n 2, 1) := by decide +kernel
theorem dX9_is_33 : decode cX9_is 33 = .ok (.ifCond .eq 34, 3) := by decide +kernel
theorem dX9_is_36 : decode cX9_is 36 = .ok (.aload_n 0, 1) := by decide +kernel
theorem dX9_is_37 : decode cX9_is 37 = .ok (.getfield 31, 3) := by decide +kernel
theorem dX9_is_40 : decode cX9_is 40 = .ok (.aload_n 0, 1) := by decide +kernel
theorem dX9_is_41 : decode cX9_is 41 = .ok (.getfield 100, 3) := by decide +kernel
theorem dX9_is_44 : decode cX9_is 44 = .ok (.iload_n 3, 1) := by decide +kernel
theorem dX9_is_45 : decode cX9_is 45 = .ok (.iadd, 1) := by decide +kernel
theorem dX9_is_46 : decode cX9_is 46 = .ok (.iaload, 1) := by decide +kernel
theorem dX9_is_47 : decode cX9_is 47 = .ok (.aload_n 1, 1) := by decide +kernel
theorem dX9_is_48 : decode cX9_is 48 = .ok (.iload_n 3, 1) := by decide +kernel
theorem dX9_is_49 : decode cX9_is 49 = .ok (.invokevirtual 109, 3) := by decide +kernel
theorem dX9_is_52 : decode cX9_is 52 = .ok (.if_icmp .ne 7, 3) := by decide +kernel
theorem dX9_is_55 : decode cX9_is 55 = .ok (.iconst 1, 1) := by decide +kernel
theorem dX9_is_56 : decode cX9_is 56 = .ok (.goto 4, 3) := by decide +kernel
theorem dX9_is_59 : decode cX9_is 59 = .ok (.iconst 0, 1) := by decide +kernel
theorem dX9_is_60 : decode cX9_is 60 = .ok (.istore_n 2, 1) := by decide +kernel
theorem dX9_is_61 : decode cX9_is 61 = .ok (.iinc 3 1, 3) := by decide +kernel
theorem dX9_is_64 : decode cX9_is 64 = .ok (.goto (-40), 3) := by decide +kernel
theorem dX9_is_67 : decode cX9_is 67 = .ok (.iload_n 2, 1) := by decide +kernel
theorem dX9_is_68 : decode cX9_is 68 = .ok (.ireturn, 1) := by decide +kernel
theorem dX9_asked_0 : decode cX9_asked 0 = .ok (.aload_n 0, 1) := by decide +kernel
theorem dX9_asked_1 : decode cX9_asked 1 = .ok (.ldc 113, 2) := by decide +kernel
theorem dX9_asked_3 : decode cX9_asked 3 = .ok (.invokevirtual 115, 3) := by decide +kernel
theorem dX9_asked_6 : decode cX9_asked 6 = .ok (.ifCond .eq 6, 3) := by decide +kernel
theorem dX9_asked_9 : decode cX9_asked 9 = .ok (.bipush 41, 2) := by decide +kernel
theorem dX9_asked_11 : decode cX9_asked 11 = .ok (.ireturn, 1) := by decide +kernel
theorem dX9_asked_12 : decode cX9_asked 12 = .ok (.aload_n 0, 1) := by decide +kernel
theorem dX9_asked_13 : decode cX9_asked 13 = .ok (.ldc 119, 2) := by decide +kernel
theorem dX9_asked_15 : decode cX9_asked 15 = .ok (.invokevirtual 115, 3) := by decide +kernel
theorem dX9_asked_18 : decode cX9_asked 18 = .ok (.ifCond .eq 6, 3) := by decide +kernel
theorem dX9_asked_21 : decode cX9_asked 21 = .ok (.bipush 42, 2) := by decide +kernel
theorem dX9_asked_23 : decode cX9_asked 23 = .ok (.ireturn, 1) := by decide +kernel
theorem dX9_asked_24 : decode cX9_asked 24 = .ok (.aload_n 0, 1) := by decide +kernel
theorem dX9_asked_25 : decode cX9_asked 25 = .ok (.ldc 121, 2) := by decide +kernel
theorem dX9_asked_27 : decode cX9_asked 27 = .ok (.invokevirtual 115, 3) := by decide +kernel
theorem dX9_asked_30 : decode cX9_asked 30 = .ok (.ifCond .eq 6, 3) := by decide +kernel
theorem dX9_asked_33 : decode cX9_asked 33 = .ok (.bipush 43, 2) := by decide +kernel
theorem dX9_asked_35 : decode cX9_asked 35 = .ok (.ireturn, 1) := by decide +kernel
theorem dX9_asked_36 : decode cX9_asked 36 = .ok (.aload_n 0, 1) := by decide +kernel
theorem dX9_asked_37 : decode cX9_asked 37 = .ok (.ldc 123, 2) := by decide +kernel
theorem dX9_asked_39 : decode cX9_asked 39 = .ok (.invokevirtual 115, 3) := by decide +kernel
theorem dX9_asked_42 : decode cX9_asked 42 = .ok (.ifCond .eq 6, 3) := by decide +kernel
theorem dX9_asked_45 : decode cX9_asked 45 = .ok (.bipush 44, 2) := by decide +kernel
theorem dX9_asked_47 : decode cX9_asked 47 = .ok (.ireturn, 1) := by decide +kernel
theorem dX9_asked_48 : decode cX9_asked 48 = .ok (.aload_n 0, 1) := by decide +kernel
theorem dX9_asked_49 : decode cX9_asked 49 = .ok (.ldc 125, 2) := by decide +kernel
theorem dX9_asked_51 : decode cX9_asked 51 = .ok (.invokevirtual 115, 3) := by decide +kernel
theorem dX9_asked_54 : decode cX9_asked 54 = .ok (.ifCond .eq 6, 3) := by decide +kernel
theorem dX9_asked_57 : decode cX9_asked 57 = .ok (.bipush 45, 2) := by decide +kernel
theorem dX9_asked_59 : decode cX9_asked 59 = .ok (.ireturn, 1) := by decide +kernel
theorem dX9_asked_60 : decode cX9_asked 60 = .ok (.aload_n 0, 1) := by decide +kernel
theorem dX9_asked_61 : decode cX9_asked 61 = .ok (.ldc 127, 2) := by decide +kernel
theorem dX9_asked_63 : decode cX9_asked 63 = .ok (.invokevirtual 115, 3) := by decide +kernel
theorem dX9_asked_66 : decode cX9_asked 66 = .ok (.ifCond .eq 6, 3) := by decide +kernel
theorem dX9_asked_69 : decode cX9_asked 69 = .ok (.bipush 46, 2) := by decide +kernel
theorem dX9_asked_71 : decode cX9_asked 71 = .ok (.ireturn, 1) := by decide +kernel
theorem dX9_asked_72 : decode cX9_asked 72 = .ok (.aload_n 0, 1) := by decide +kernel
theorem dX9_asked_73 : decode cX9_asked 73 = .ok (.ldc 129, 2) := by decide +kernel
theorem dX9_asked_75 : decode cX9_asked 75 = .ok (.invokevirtual 115, 3) := by decide +kernel
theorem dX9_asked_78 : decode cX9_asked 78 = .ok (.ifCond .eq 6, 3) := by decide +kernel
theorem dX9_asked_81 : decode cX9_asked 81 = .ok (.bipush 47, 2) := by decide +kernel
theorem dX9_asked_83 : decode cX9_asked 83 = .ok (.ireturn, 1) := by decide +kernel
theorem dX9_asked_84 : decode cX9_asked 84 = .ok (.aload_n 0, 1) := by decide +kernel
theorem dX9_asked_85 : decode cX9_asked 85 = .ok (.ldc 131, 2) := by decide +kernel
theorem dX9_asked_87 : decode cX9_asked 87 = .ok (.invokevirtual 115, 3) := by decide +kernel
theorem dX9_asked_90 : decode cX9_asked 90 = .ok (.ifCond .eq 6, 3) := by decide +kernel
theorem dX9_asked_93 : decode cX9_asked 93 = .ok (.bipush 48, 2) := by decide +kernel
theorem dX9_asked_95 : decode cX9_asked 95 = .ok (.ireturn, 1) := by decide +kernel
theorem dX9_asked_96 : decode cX9_asked 96 = .ok (.aload_n 0, 1) := by decide +kernel
theorem dX9_asked_97 : decode cX9_asked 97 = .ok (.ldc 133, 2) := by decide +kernel
theorem dX9_asked_99 : decode cX9_asked 99 = .ok (.invokevirtual 115, 3) := by decide +kernel
theorem dX9_asked_102 : decode cX9_asked 102 = .ok (.ifCond .eq 6, 3) := by decide +kernel
theorem dX9_asked_105 : decode cX9_asked 105 = .ok (.bipush 49, 2) := by decide +kernel
theorem dX9_asked_107 : decode cX9_asked 107 = .ok (.ireturn, 1) := by decide +kernel
theorem dX9_asked_108 : decode cX9_asked 108 = .ok (.aload_n 0, 1) := by decide +kernel
theorem dX9_asked_109 : decode cX9_asked 109 = .ok (.ldc 135, 2) := by decide +kernel
theorem dX9_asked_111 : decode cX9_asked 111 = .ok (.invokevirtual 115, 3) := by decide +kernel
theorem dX9_asked_114 : decode cX9_asked 114 = .ok (.ifCond .eq 8, 3) := by decide +kernel
theorem dX9_asked_117 : decode cX9_asked 117 = .ok (.bipush 50, 2) := by decide +kernel
theorem dX9_asked_119 : decode cX9_asked 119 = .ok (.goto 4, 3) := by decide +kernel
theorem dX9_asked_122 : decode cX9_asked 122 = .ok (.iconst 1, 1) := by decide +kernel
theorem dX9_asked_123 : decode cX9_asked 123 = .ok (.ireturn, 1) := by decide +kernel
theorem dX9_lawWord_0 : decode cX9_lawWord 0 = .ok (.aload_n 0, 1) := by decide +kernel
theorem dX9_lawWord_1 : decode cX9_lawWord 1 = .ok (.ldc 137, 2) := by decide +kernel
theorem dX9_lawWord_3 : decode cX9_lawWord 3 = .ok (.invokevirtual 115, 3) := by decide +kernel
theorem dX9_lawWord_6 : decode cX9_lawWord 6 = .ok (.ifCond .eq 5, 3) := by decide +kernel
theorem dX9_lawWord_9 : decode cX9_lawWord 9 = .ok (.iconst 3, 1) := by decide +kernel
theorem dX9_lawWord_10 : decode cX9_lawWord 10 = .ok (.ireturn, 1) := by decide +kernel
theorem dX9_lawWord_11 : decode cX9_lawWord 11 = .ok (.aload_n 0, 1) := by decide +kernel
theorem dX9_lawWord_12 : decode cX9_lawWord 12 = .ok (.ldc 139, 2) := by decide +kernel
theorem dX9_lawWord_14 : decode cX9_lawWord 14 = .ok (.invokevirtual 115, 3) := by decide +kernel
theorem dX9_lawWord_17 : decode cX9_lawWord 17 = .ok (.ifCond .eq 5, 3) := by decide +kernel
theorem dX9_lawWord_20 : decode cX9_lawWord 20 = .ok (.iconst 4, 1) := by decide +kernel
theorem dX9_lawWord_21 : decode cX9_lawWord 21 = .ok (.ireturn, 1) := by decide +kernel
theorem dX9_lawWord_22 : decode cX9_lawWord 22 = .ok (.aload_n 0, 1) := by decide +kernel
theorem dX9_lawWord_23 : decode cX9_lawWord 23 = .ok (.ldc 141, 2) := by decide +kernel
theorem dX9_lawWord_25 : decode cX9_lawWord 25 = .ok (.invokevirtual 115, 3) := by decide +kernel
theorem dX9_lawWord_28 : decode cX9_lawWord 28 = .ok (.ifCond .eq 5, 3) := by decide +kernel
theorem dX9_lawWord_31 : decode cX9_lawWord 31 = .ok (.iconst 5, 1) := by decide +kernel
theorem dX9_lawWord_32 : decode cX9_lawWord 32 = .ok (.ireturn, 1) := by decide +kernel
theorem dX9_lawWord_33 : decode cX9_lawWord 33 = .ok (.aload_n 0, 1) := by decide +kernel
theorem dX9_lawWord_34 : decode cX9_lawWord 34 = .ok (.ldc 143, 2) := by decide +kernel
theorem dX9_lawWord_36 : decode cX9_lawWord 36 = .ok (.invokevirtual 115, 3) := by decide +kernel
theorem dX9_lawWord_39 : decode cX9_lawWord 39 = .ok (.ifCond .eq 6, 3) := by decide +kernel
theorem dX9_lawWord_42 : decode cX9_lawWord 42 = .ok (.bipush 6, 2) := by decide +kernel
theorem dX9_lawWord_44 : decode cX9_lawWord 44 = .ok (.ireturn, 1) := by decide +kernel
theorem dX9_lawWord_45 : decode cX9_lawWord 45 = .ok (.aload_n 0, 1) := by decide +kernel
theorem dX9_lawWord_46 : decode cX9_lawWord 46 = .ok (.ldc 145, 2) := by decide +kernel
theorem dX9_lawWord_48 : decode cX9_lawWord 48 = .ok (.invokevirtual 115, 3) := by decide +kernel
theorem dX9_lawWord_51 : decode cX9_lawWord 51 = .ok (.ifCond .eq 6, 3) := by decide +kernel
theorem dX9_lawWord_54 : decode cX9_lawWord 54 = .ok (.bipush 20, 2) := by decide +kernel
theorem dX9_lawWord_56 : decode cX9_lawWord 56 = .ok (.ireturn, 1) := by decide +kernel
theorem dX9_lawWord_57 : decode cX9_lawWord 57 = .ok (.aload_n 0, 1) := by decide +kernel
theorem dX9_lawWord_58 : decode cX9_lawWord 58 = .ok (.ldc 147, 2) := by decide +kernel
theorem dX9_lawWord_60 : decode cX9_lawWord 60 = .ok (.invokevirtual 115, 3) := by decide +kernel
theorem dX9_lawWord_63 : decode cX9_lawWord 63 = .ok (.ifCond .eq 6, 3) := by decide +kernel
theorem dX9_lawWord_66 : decode cX9_lawWord 66 = .ok (.bipush 21, 2) := by decide +kernel
theorem dX9_lawWord_68 : decode cX9_lawWord 68 = .ok (.ireturn, 1) := by decide +kernel
theorem dX9_lawWord_69 : decode cX9_lawWord 69 = .ok (.aload_n 0, 1) := by decide +kernel
theorem dX9_lawWord_70 : decode cX9_lawWord 70 = .ok (.ldc 149, 2) := by decide +kernel
theorem dX9_lawWord_72 : decode cX9_lawWord 72 = .ok (.invokevirtual 115, 3) := by decide +kernel
theorem dX9_lawWord_75 : decode cX9_lawWord 75 = .ok (.ifCond .eq 6, 3) := by decide +kernel
theorem dX9_lawWord_78 : decode cX9_lawWord 78 = .ok (.bipush 22, 2) := by decide +kernel
theorem dX9_lawWord_80 : decode cX9_lawWord 80 = .ok (.ireturn, 1) := by decide +kernel
theorem dX9_lawWord_81 : decode cX9_lawWord 81 = .ok (.aload_n 0, 1) := by decide +kernel
theorem dX9_lawWord_82 : decode cX9_lawWord 82 = .ok (.ldc 151, 2) := by decide +kernel
theorem dX9_lawWord_84 : decode cX9_lawWord 84 = .ok (.invokevirtual 115, 3) := by decide +kernel
theorem dX9_lawWord_87 : decode cX9_lawWord 87 = .ok (.ifCond .eq 6, 3) := by decide +kernel
theorem dX9_lawWord_90 : decode cX9_lawWord 90 = .ok (.bipush 23, 2) := by decide +kernel
theorem dX9_lawWord_92 : decode cX9_lawWord 92 = .ok (.ireturn, 1) := by decide +kernel
theorem dX9_lawWord_93 : decode cX9_lawWord 93 = .ok (.aload_n 0, 1) := by decide +kernel
theorem dX9_lawWord_94 : decode cX9_lawWord 94 = .ok (.ldc 153, 2) := by decide +kernel
theorem dX9_lawWord_96 : decode cX9_lawWord 96 = .ok (.invokevirtual 115, 3) := by decide +kernel
theorem dX9_lawWord_99 : decode cX9_lawWord 99 = .ok (.ifCond .eq 8, 3) := by decide +kernel
theorem dX9_lawWord_102 : decode cX9_lawWord 102 = .ok (.bipush 24, 2) := by decide +kernel
theorem dX9_lawWord_104 : decode cX9_lawWord 104 = .ok (.goto 7, 3) := by decide +kernel
theorem dX9_lawWord_107 : decode cX9_lawWord 107 = .ok (.aload_n 0, 1) := by decide +kernel
theorem dX9_lawWord_108 : decode cX9_lawWord 108 = .ok (.invokevirtual 155, 3) := by decide +kernel
theorem dX9_lawWord_111 : decode cX9_lawWord 111 = .ok (.ireturn, 1) := by decide +kernel
theorem dX9_hourWord_0 : decode cX9_hourWord 0 = .ok (.aload_n 0, 1) := by decide +kernel
theorem dX9_hourWord_1 : decode cX9_hourWord 1 = .ok (.ldc 113, 2) := by decide +kernel
theorem dX9_hourWord_3 : decode cX9_hourWord 3 = .ok (.invokevirtual 115, 3) := by decide +kernel
theorem dX9_hourWord_6 : decode cX9_hourWord 6 = .ok (.ifCond .eq 6, 3) := by decide +kernel
theorem dX9_hourWord_9 : decode cX9_hourWord 9 = .ok (.bipush 7, 2) := by decide +kernel
theorem dX9_hourWord_11 : decode cX9_hourWord 11 = .ok (.ireturn, 1) := by decide +kernel
theorem dX9_hourWord_12 : decode cX9_hourWord 12 = .ok (.aload_n 0, 1) := by decide +kernel
theorem dX9_hourWord_13 : decode cX9_hourWord 13 = .ok (.ldc 158, 2) := by decide +kernel
theorem dX9_hourWord_15 : decode cX9_hourWord 15 = .ok (.invokevirtual 115, 3) := by decide +kernel
theorem dX9_hourWord_18 : decode cX9_hourWord 18 = .ok (.ifCond .eq 6, 3) := by decide +kernel
theorem dX9_hourWord_21 : decode cX9_hourWord 21 = .ok (.bipush 8, 2) := by decide +kernel
theorem dX9_hourWord_23 : decode cX9_hourWord 23 = .ok (.ireturn, 1) := by decide +kernel
theorem dX9_hourWord_24 : decode cX9_hourWord 24 = .ok (.aload_n 0, 1) := by decide +kernel
theorem dX9_hourWord_25 : decode cX9_hourWord 25 = .ok (.ldc 160, 2) := by decide +kernel
theorem dX9_hourWord_27 : decode cX9_hourWord 27 = .ok (.invokevirtual 115, 3) := by decide +kernel
theorem dX9_hourWord_30 : decode cX9_hourWord 30 = .ok (.ifCond .eq 6, 3) := by decide +kernel
theorem dX9_hourWord_33 : decode cX9_hourWord 33 = .ok (.bipush 9, 2) := by decide +kernel
theorem dX9_hourWord_35 : decode cX9_hourWord 35 = .ok (.ireturn, 1) := by decide +kernel
theorem dX9_hourWord_36 : decode cX9_hourWord 36 = .ok (.aload_n 0, 1) := by decide +kernel
theorem dX9_hourWord_37 : decode cX9_hourWord 37 = .ok (.ldc 162, 2) := by decide +kernel
theorem dX9_hourWord_39 : decode cX9_hourWord 39 = .ok (.invokevirtual 115, 3) := by decide +kernel
theorem dX9_hourWord_42 : decode cX9_hourWord 42 = .ok (.ifCond .eq 6, 3) := by decide +kernel
theorem dX9_hourWord_45 : decode cX9_hourWord 45 = .ok (.bipush 30, 2) := by decide +kernel
theorem dX9_hourWord_47 : decode cX9_hourWord 47 = .ok (.ireturn, 1) := by decide +kernel
theorem dX9_hourWord_48 : decode cX9_hourWord 48 = .ok (.aload_n 0, 1) := by decide +kernel
theorem dX9_hourWord_49 : decode cX9_hourWord 49 = .ok (.ldc 129, 2) := by decide +kernel
theorem dX9_hourWord_51 : decode cX9_hourWord 51 = .ok (.invokevirtual 115, 3) := by decide +kernel
theorem dX9_hourWord_54 : decode cX9_hourWord 54 = .ok (.ifCond .eq 6, 3) := by decide +kernel
theorem dX9_hourWord_57 : decode cX9_hourWord 57 = .ok (.bipush 31, 2) := by decide +kernel
theorem dX9_hourWord_59 : decode cX9_hourWord 59 = .ok (.ireturn, 1) := by decide +kernel
theorem dX9_hourWord_60 : decode cX9_hourWord 60 = .ok (.aload_n 0, 1) := by decide +kernel
theorem dX9_hourWord_61 : decode cX9_hourWord 61 = .ok (.ldc 164, 2) := by decide +kernel
theorem dX9_hourWord_63 : decode cX9_hourWord 63 = .ok (.invokevirtual 115, 3) := by decide +kernel
theorem dX9_hourWord_66 : decode cX9_hourWord 66 = .ok (.ifCond .eq 6, 3) := by decide +kernel
theorem dX9_hourWord_69 : decode cX9_hourWord 69 = .ok (.bipush 32, 2) := by decide +kernel
theorem dX9_hourWord_71 : decode cX9_hourWord 71 = .ok (.ireturn, 1) := by decide +kernel
theorem dX9_hourWord_72 : decode cX9_hourWord 72 = .ok (.aload_n 0, 1) := by decide +kernel
theorem dX9_hourWord_73 : decode cX9_hourWord 73 = .ok (.ldc 166, 2) := by decide +kernel
theorem dX9_hourWord_75 : decode cX9_hourWord 75 = .ok (.invokevirtual 115, 3) := by decide +kernel
theorem dX9_hourWord_78 : decode cX9_hourWord 78 = .ok (.ifCond .eq 8, 3) := by decide +kernel
theorem dX9_hourWord_81 : decode cX9_hourWord 81 = .ok (.bipush 33, 2) := by decide +kernel
theorem dX9_hourWord_83 : decode cX9_hourWord 83 = .ok (.goto 4, 3) := by decide +kernel
theorem dX9_hourWord_86 : decode cX9_hourWord 86 = .ok (.iconst 1, 1) := by decide +kernel
theorem dX9_hourWord_87 : decode cX9_hourWord 87 = .ok (.ireturn, 1) := by decide +kernel
theorem dX9_sayingWord_0 : decode cX9_sayingWord 0 = .ok (.aload_n 0, 1) := by decide +kernel
theorem dX9_sayingWord_1 : decode cX9_sayingWord 1 = .ok (.ldc 168, 2) := by decide +kernel
theorem dX9_sayingWord_3 : decode cX9_sayingWord 3 = .ok (.invokevirtual 115, 3) := by decide +kernel
theorem dX9_sayingWord_6 : decode cX9_sayingWord 6 = .ok (.ifCond .eq 6, 3) := by decide +kernel
theorem dX9_sayingWord_9 : decode cX9_sayingWord 9 = .ok (.bipush 10, 2) := by decide +kernel
theorem dX9_sayingWord_11 : decode cX9_sayingWord 11 = .ok (.ireturn, 1) := by decide +kernel
theorem dX9_sayingWord_12 : decode cX9_sayingWord 12 = .ok (.aload_n 0, 1) := by decide +kernel
theorem dX9_sayingWord_13 : decode cX9_sayingWord 13 = .ok (.ldc 113, 2) := by decide +kernel
theorem dX9_sayingWord_15 : decode cX9_sayingWord 15 = .ok (.invokevirtual 115, 3) := by decide +kernel
theorem dX9_sayingWord_18 : decode cX9_sayingWord 18 = .ok (.ifCond .eq 6, 3) := by decide +kernel
theorem dX9_sayingWord_21 : decode cX9_sayingWord 21 = .ok (.bipush 7, 2) := by decide +kernel
theorem dX9_sayingWord_23 : decode cX9_sayingWord 23 = .ok (.ireturn, 1) := by decide +kernel
theorem dX9_sayingWord_24 : decode cX9_sayingWord 24 = .ok (.aload_n 0, 1) := by decide +kernel
theorem dX9_sayingWord_25 : decode cX9_sayingWord 25 = .ok (.ldc 169, 2) := by decide +kernel
theorem dX9_sayingWord_27 : decode cX9_sayingWord 27 = .ok (.invokevirtual 115, 3) := by decide +kernel
theorem dX9_sayingWord_30 : decode cX9_sayingWord 30 = .ok (.ifCond .eq 6, 3) := by decide +kernel
theorem dX9_sayingWord_33 : decode cX9_sayingWord 33 = .ok (.bipush 11, 2) := by decide +kernel
theorem dX9_sayingWord_35 : decode cX9_sayingWord 35 = .ok (.ireturn, 1) := by decide +kernel
theorem dX9_sayingWord_36 : decode cX9_sayingWord 36 = .ok (.aload_n 0, 1) := by decide +kernel
theorem dX9_sayingWord_37 : decode cX9_sayingWord 37 = .ok (.ldc 125, 2) := by decide +kernel
theorem dX9_sayingWord_39 : decode cX9_sayingWord 39 = .ok (.invokevirtual 115, 3) := by decide +kernel
theorem dX9_sayingWord_42 : decode cX9_sayingWord 42 = .ok (.ifCond .eq 6, 3) := by decide +kernel
theorem dX9_sayingWord_45 : decode cX9_sayingWord 45 = .ok (.bipush 12, 2) := by decide +kernel
theorem dX9_sayingWord_47 : decode cX9_sayingWord 47 = .ok (.ireturn, 1) := by decide +kernel
theorem dX9_sayingWord_48 : decode cX9_sayingWord 48 = .ok (.aload_n 0, 1) := by decide +kernel
theorem dX9_sayingWord_49 : decode cX9_sayingWord 49 = .ok (.ldc 127, 2) := by decide +kernel
theorem dX9_sayingWord_51 : decode cX9_sayingWord 51 = .ok (.invokevirtual 115, 3) := by decide +kernel
theorem dX9_sayingWord_54 : decode cX9_sayingWord 54 = .ok (.ifCond .eq 6, 3) := by decide +kernel
theorem dX9_sayingWord_57 : decode cX9_sayingWord 57 = .ok (.bipush 13, 2) := by decide +kernel
theorem dX9_sayingWord_59 : decode cX9_sayingWord 59 = .ok (.ireturn, 1) := by decide +kernel
theorem dX9_sayingWord_60 : decode cX9_sayingWord 60 = .ok (.aload_n 0, 1) := by decide +kernel
theorem dX9_sayingWord_61 : decode cX9_sayingWord 61 = .ok (.ldc 171, 2) := by decide +kernel
theorem dX9_sayingWord_63 : decode cX9_sayingWord 63 = .ok (.invokevirtual 115, 3) := by decide +kernel
theorem dX9_sayingWord_66 : decode cX9_sayingWord 66 = .ok (.ifCond .eq 8, 3) := by decide +kernel
theorem dX9_sayingWord_69 : decode cX9_sayingWord 69 = .ok (.bipush 14, 2) := by decide +kernel
theorem dX9_sayingWord_71 : decode cX9_sayingWord 71 = .ok (.goto 4, 3) := by decide +kernel
theorem dX9_sayingWord_74 : decode cX9_sayingWord 74 = .ok (.iconst 1, 1) := by decide +kernel
theorem dX9_sayingWord_75 : decode cX9_sayingWord 75 = .ok (.ireturn, 1) := by decide +kernel
theorem dX9_word_0 : decode cX9_word 0 = .ok (.aload_n 0, 1) := by decide +kernel
theorem dX9_word_1 : decode cX9_word 1 = .ok (.getfield 173, 3) := by decide +kernel
theorem dX9_word_4 : decode cX9_word 4 = .ok (.tableswitch 43 0 2 #[28, 33, 38], 28) := by decide +kernel
theorem dX9_word_32 : decode cX9_word 32 = .ok (.aload_n 0, 1) := by decide +kernel
theorem dX9_word_33 : decode cX9_word 33 = .ok (.invokevirtual 176, 3) := by decide +kernel
theorem dX9_word_36 : decode cX9_word 36 = .ok (.ireturn, 1) := by decide +kernel
theorem dX9_word_37 : decode cX9_word 37 = .ok (.aload_n 0, 1) := by decide +kernel
theorem dX9_word_38 : decode cX9_word 38 = .ok (.invokevirtual 179, 3) := by decide +kernel
theorem dX9_word_41 : decode cX9_word 41 = .ok (.ireturn, 1) := by decide +kernel
theorem dX9_word_42 : decode cX9_word 42 = .ok (.aload_n 0, 1) := by decide +kernel
theorem dX9_word_43 : decode cX9_word 43 = .ok (.invokevirtual 182, 3) := by decide +kernel
theorem dX9_word_46 : decode cX9_word 46 = .ok (.ireturn, 1) := by decide +kernel
theorem dX9_word_47 : decode cX9_word 47 = .ok (.aload_n 0, 1) := by decide +kernel
theorem dX9_word_48 : decode cX9_word 48 = .ok (.ldc 185, 2) := by decide +kernel
theorem dX9_word_50 : decode cX9_word 50 = .ok (.invokevirtual 115, 3) := by decide +kernel
theorem dX9_word_53 : decode cX9_word 53 = .ok (.ifCond .eq 8, 3) := by decide +kernel
theorem dX9_word_56 : decode cX9_word 56 = .ok (.bipush 15, 2) := by decide +kernel
theorem dX9_word_58 : decode cX9_word 58 = .ok (.goto 32, 3) := by decide +kernel
theorem dX9_word_61 : decode cX9_word 61 = .ok (.aload_n 0, 1) := by decide +kernel
theorem dX9_word_62 : decode cX9_word 62 = .ok (.ldc 187, 2) := by decide +kernel
theorem dX9_word_64 : decode cX9_word 64 = .ok (.invokevirtual 115, 3) := by decide +kernel
theorem dX9_word_67 : decode cX9_word 67 = .ok (.ifCond .eq 8, 3) := by decide +kernel
theorem dX9_word_70 : decode cX9_word 70 = .ok (.bipush 16, 2) := by decide +kernel
theorem dX9_word_72 : decode cX9_word 72 = .ok (.goto 18, 3) := by decide +kernel
theorem dX9_word_75 : decode cX9_word 75 = .ok (.aload_n 0, 1) := by decide +kernel
theorem dX9_word_76 : decode cX9_word 76 = .ok (.ldc 119, 2) := by decide +kernel
theorem dX9_word_78 : decode cX9_word 78 = .ok (.invokevirtual 115, 3) := by decide +kernel
theorem dX9_word_81 : decode cX9_word 81 = .ok (.ifCond .eq 8, 3) := by decide +kernel
theorem dX9_word_84 : decode cX9_word 84 = .ok (.bipush 17, 2) := by decide +kernel
theorem dX9_word_86 : decode cX9_word 86 = .ok (.goto 4, 3) := by decide +kernel
theorem dX9_word_89 : decode cX9_word 89 = .ok (.iconst 1, 1) := by decide +kernel
theorem dX9_word_90 : decode cX9_word 90 = .ok (.ireturn, 1) := by decide +kernel
theorem dX9_next0_0 : decode cX9_next0 0 = .ok (.aload_n 0, 1) := by decide +kernel
theorem dX9_next0_1 : decode cX9_next0 1 = .ok (.aload_n 0, 1) := by decide +kernel
theorem dX9_next0_2 : decode cX9_next0 2 = .ok (.getfield 97, 3) := by decide +kernel
theorem dX9_next0_5 : decode cX9_next0 5 = .ok (.invokevirtual 189, 3) := by decide +kernel
theorem dX9_next0_8 : decode cX9_next0 8 = .ok (.bipush 32, 2) := by decide +kernel
theorem dX9_next0_10 : decode cX9_next0 10 = .ok (.if_icmp .eq 16, 3) := by decide +kernel
theorem dX9_next0_13 : decode cX9_next0 13 = .ok (.aload_n 0, 1) := by decide +kernel
theorem dX9_next0_14 : decode cX9_next0 14 = .ok (.aload_n 0, 1) := by decide +kernel
theorem dX9_next0_15 : decode cX9_next0 15 = .ok (.getfield 97, 3) := by decide +kernel
theorem dX9_next0_18 : decode cX9_next0 18 = .ok (.invokevirtual 189, 3) := by decide +kernel
theorem dX9_next0_21 : decode cX9_next0 21 = .ok (.bipush 10, 2) := by decide +kernel
theorem dX9_next0_23 : decode cX9_next0 23 = .ok (.if_icmp .ne 16, 3) := by decide +kernel
theorem dX9_next0_26 : decode cX9_next0 26 = .ok (.aload_n 0, 1) := by decide +kernel
theorem dX9_next0_27 : decode cX9_next0 27 = .ok (.dup, 1) := by decide +kernel
theorem dX9_next0_28 : decode cX9_next0 28 = .ok (.getfield 97, 3) := by decide +kernel
theorem dX9_next0_31 : decode cX9_next0 31 = .ok (.iconst 1, 1) := by decide +kernel
theorem dX9_next0_32 : decode cX9_next0 32 = .ok (.iadd, 1) := by decide +kernel
theorem dX9_next0_33 : decode cX9_next0 33 = .ok (.putfield 97, 3) := by decide +kernel
theorem dX9_next0_36 : decode cX9_next0 36 = .ok (.goto (-36), 3) := by decide +kernel
theorem dX9_next0_39 : decode cX9_next0 39 = .ok (.aload_n 0, 1) := by decide +kernel
theorem dX9_next0_40 : decode cX9_next0 40 = .ok (.aload_n 0, 1) := by decide +kernel
theorem dX9_next0_41 : decode cX9_next0 41 = .ok (.getfield 97, 3) := by decide +kernel
theorem dX9_next0_44 : decode cX9_next0 44 = .ok (.putfield 100, 3) := by decide +kernel
theorem dX9_next0_47 : decode cX9_next0 47 = .ok (.aload_n 0, 1) := by decide +kernel
theorem dX9_next0_48 : decode cX9_next0 48 = .ok (.aload_n 0, 1) := by decide +kernel
theorem dX9_next0_49 : decode cX9_next0 49 = .ok (.getfield 97, 3) := by decide +kernel
theorem dX9_next0_52 : decode cX9_next0 52 = .ok (.invokevirtual 189, 3) := by decide +kernel
theorem dX9_next0_55 : decode cX9_next0 55 = .ok (.istore_n 1, 1) := by decide +kernel
theorem dX9_next0_56 : decode cX9_next0 56 = .ok (.iload_n 1, 1) := by decide +kernel
theorem dX9_next0_57 : decode cX9_next0 57 = .ok (.iconst (-1), 1) := by decide +kernel
theorem dX9_next0_58 : decode cX9_next0 58 = .ok (.if_icmp .ne 11, 3) := by decide +kernel
theorem dX9_next0_61 : decode cX9_next0 61 = .ok (.aload_n 0, 1) := by decide +kernel
theorem dX9_next0_62 : decode cX9_next0 62 = .ok (.iconst 0, 1) := by decide +kernel
theorem dX9_next0_63 : decode cX9_next0 63 = .ok (.putfield 193, 3) := by decide +kernel
theorem dX9_next0_66 : decode cX9_next0 66 = .ok (.goto 240, 3) := by decide +kernel
theorem dX9_next0_69 : decode cX9_next0 69 = .ok (.iload_n 1, 1) := by decide +kernel
theorem dX9_next0_70 : decode cX9_next0 70 = .ok (.invokestatic 196, 3) := by decide +kernel
theorem dX9_next0_73 : decode cX9_next0 73 = .ok (.ifCond .eq 41, 3) := by decide +kernel
theorem dX9_next0_76 : decode cX9_next0 76 = .ok (.aload_n 0, 1) := by decide +kernel
theorem dX9_next0_77 : decode cX9_next0 77 = .ok (.aload_n 0, 1) := by decide +kernel
theorem dX9_next0_78 : decode cX9_next0 78 = .ok (.getfield 97, 3) := by decide +kernel
theorem dX9_next0_81 : decode cX9_next0 81 = .ok (.invokevirtual 189, 3) := by decide +kernel
theorem dX9_next0_84 : decode cX9_next0 84 = .ok (.invokestatic 196, 3) := by decide +kernel
theorem dX9_next0_87 : decode cX9_next0 87 = .ok (.ifCond .eq 16, 3) := by decide +kernel
theorem dX9_next0_90 : decode cX9_next0 90 = .ok (.aload_n 0, 1) := by decide +kernel
theorem dX9_next0_91 : decode cX9_next0 91 = .ok (.dup, 1) := by decide +kernel
theorem dX9_next0_92 : decode cX9_next0 92 = .ok (.getfield 97, 3) := by decide +kernel
theorem dX9_next0_95 : decode cX9_next0 95 = .ok (.iconst 1, 1) := by decide +kernel
theorem dX9_next0_96 : decode cX9_next0 96 = .ok (.iadd, 1) := by decide +kernel
theorem dX9_next0_97 : decode cX9_next0 97 = .ok (.putfield 97, 3) := by decide +kernel
theorem dX9_next0_100 : decode cX9_next0 100 = .ok (.goto (-24), 3) := by decide +kernel
theorem dX9_next0_103 : decode cX9_next0 103 = .ok (.aload_n 0, 1) := by decide +kernel
theorem dX9_next0_104 : decode cX9_next0 104 = .ok (.aload_n 0, 1) := by decide +kernel
theorem dX9_next0_105 : decode cX9_next0 105 = .ok (.invokevirtual 199, 3) := by decide +kernel
theorem dX9_next0_108 : decode cX9_next0 108 = .ok (.putfield 193, 3) := by decide +kernel
theorem dX9_next0_111 : decode cX9_next0 111 = .ok (.goto 195, 3) := by decide +kernel
theorem dX9_next0_114 : decode cX9_next0 114 = .ok (.iload_n 1, 1) := by decide +kernel
theorem dX9_next0_115 : decode cX9_next0 115 = .ok (.invokestatic 202, 3) := by decide +kernel
theorem dX9_next0_118 : decode cX9_next0 118 = .ok (.ifCond .eq 96, 3) := by decide +kernel
theorem dX9_next0_121 : decode cX9_next0 121 = .ok (.aload_n 0, 1) := by decide +kernel
theorem dX9_next0_122 : decode cX9_next0 122 = .ok (.iconst 0, 1) := by decide +kernel
theorem dX9_next0_123 : decode cX9_next0 123 = .ok (.putfield 205, 3) := by decide +kernel
theorem dX9_next0_126 : decode cX9_next0 126 = .ok (.aload_n 0, 1) := by decide +kernel
theorem dX9_next0_127 : decode cX9_next0 127 = .ok (.aload_n 0, 1) := by decide +kernel
theorem dX9_next0_128 : decode cX9_next0 128 = .ok (.getfield 97, 3) := by decide +kernel
theorem dX9_next0_131 : decode cX9_next0 131 = .ok (.invokevirtual 189, 3) := by decide +kernel
theorem dX9_next0_134 : decode cX9_next0 134 = .ok (.invokestatic 202, 3) := by decide +kernel
theorem dX9_next0_137 : decode cX9_next0 137 = .ok (.ifCond .eq 52, 3) := by decide +kernel
theorem dX9_next0_140 : decode cX9_next0 140 = .ok (.aload_n 0, 1) := by decide +kernel
theorem dX9_next0_141 : decode cX9_next0 141 = .ok (.getfield 97, 3) := by decide +kernel
theorem dX9_next0_144 : decode cX9_next0 144 = .ok (.aload_n 0, 1) := by decide +kernel
theorem dX9_next0_145 : decode cX9_next0 145 = .ok (.getfield 100, 3) := by decide +kernel
theorem dX9_next0_148 : decode cX9_next0 148 = .ok (.iconst 4, 1) := by decide +kernel
theorem dX9_next0_149 : decode cX9_next0 149 = .ok (.iadd, 1) := by decide +kernel
theorem dX9_next0_150 : decode cX9_next0 150 = .ok (.if_icmp .ge 26, 3) := by decide +kernel
theorem dX9_next0_153 : decode cX9_next0 153 = .ok (.aload_n 0, 1) := by decide +kernel
theorem dX9_next0_154 : decode cX9_next0 154 = .ok (.bipush 10, 2) := by decide +kernel
theorem dX9_next0_156 : decode cX9_next0 156 = .ok (.aload_n 0, 1) := by decide +kernel
theorem dX9_next0_157 : decode cX9_next0 157 = .ok (.getfield 205, 3) := by decide +kernel
theorem dX9_next0_160 : decode cX9_next0 160 = .ok (.imul, 1) := by decide +kernel
theorem dX9_next0_161 : decode cX9_next0 161 = .ok (.aload_n 0, 1) := by decide +kernel
theorem dX9_next0_162 : decode cX9_next0 162 = .ok (.aload_n 0, 1) := by decide +kernel
theorem dX9_next0_163 : decode cX9_next0 163 = .ok (.getfield 97, 3) := by decide +kernel
theorem dX9_next0_166 : decode cX9_next0 166 = .ok (.invokevirtual 189, 3) := by decide +kernel
theorem dX9_next0_169 : decode cX9_next0 169 = .ok (.iadd, 1) := by decide +kernel
theorem dX9_next0_170 : decode cX9_next0 170 = .ok (.bipush 48, 2) := by decide +kernel
theorem dX9_next0_172 : decode cX9_next0 172 = .ok (.isub, 1) := by decide +kernel
theorem dX9_next0_173 : decode cX9_next0 173 = .ok (.putfield 205, 3) := by decide +kernel
theorem dX9_next0_176 : decode cX9_next0 176 = .ok (.aload_n 0, 1) := by decide +kernel
theorem dX9_next0_177 : decode cX9_next0 177 = .ok (.dup, 1) := by decide +kernel
theorem dX9_next0_178 : decode cX9_next0 178 = .ok (.getfield 97, 3) := by decide +kernel
theorem dX9_next0_181 : decode cX9_next0 181 = .ok (.iconst 1, 1) := by decide +kernel
theorem dX9_next0_182 : decode cX9_next0 182 = .ok (.iadd, 1) := by decide +kernel
theorem dX9_next0_183 : decode cX9_next0 183 = .ok (.putfield 97, 3) := by decide +kernel
theorem dX9_next0_186 : decode cX9_next0 186 = .ok (.goto (-60), 3) := by decide +kernel
theorem dX9_next0_189 : decode cX9_next0 189 = .ok (.aload_n 0, 1) := by decide +kernel
theorem dX9_next0_190 : decode cX9_next0 190 = .ok (.aload_n 0, 1) := by decide +kernel
theorem dX9_next0_191 : decode cX9_next0 191 = .ok (.getfield 97, 3) := by decide +kernel
theorem dX9_next0_194 : decode cX9_next0 194 = .ok (.aload_n 0, 1) := by decide +kernel
theorem dX9_next0_195 : decode cX9_next0 195 = .ok (.getfield 100, 3) := by decide +kernel
theorem dX9_next0_198 : decode cX9_next0 198 = .ok (.isub, 1) := by decide +kernel
theorem dX9_next0_199 : decode cX9_next0 199 = .ok (.iconst 5, 1) := by decide +kernel
theorem dX9_next0_200 : decode cX9_next0 200 = .ok (.if_icmp .ge 7, 3) := by decide +kernel
theorem dX9_next0_203 : decode cX9_next0 203 = .ok (.iconst 2, 1) := by decide +kernel
theorem dX9_next0_204 : decode cX9_next0 204 = .ok (.goto 4, 3) := by decide +kernel
theorem dX9_next0_207 : decode cX9_next0 207 = .ok (.iconst 1, 1) := by decide +kernel
theorem dX9_next0_208 : decode cX9_next0 208 = .ok (.putfield 193, 3) := by decide +kernel
theorem dX9_next0_211 : decode cX9_next0 211 = .ok (.goto 95, 3) := by decide +kernel
theorem dX9_next0_214 : decode cX9_next0 214 = .ok (.aload_n 0, 1) := by decide +kernel
theorem dX9_next0_215 : decode cX9_next0 215 = .ok (.dup, 1) := by decide +kernel
theorem dX9_next0_216 : decode cX9_next0 216 = .ok (.getfield 97, 3) := by decide +kernel
theorem dX9_next0_219 : decode cX9_next0 219 = .ok (.iconst 1, 1) := by decide +kernel
theorem dX9_next0_220 : decode cX9_next0 220 = .ok (.iadd, 1) := by decide +kernel
theorem dX9_next0_221 : decode cX9_next0 221 = .ok (.putfield 97, 3) := by decide +kernel
theorem dX9_next0_224 : decode cX9_next0 224 = .ok (.iload_n 1, 1) := by decide +kernel
theorem dX9_next0_225 : decode cX9_next0 225 = .ok (.bipush 59, 2) := by decide +kernel
theorem dX9_next0_227 : decode cX9_next0 227 = .ok (.if_icmp .eq 57, 3) := by decide +kernel
theorem dX9_next0_230 : decode cX9_next0 230 = .ok (.iload_n 1, 1) := by decide +kernel
theorem dX9_next0_231 : decode cX9_next0 231 = .ok (.bipush 43, 2) := by decide +kernel
theorem dX9_next0_233 : decode cX9_next0 233 = .ok (.if_icmp .eq 51, 3) := by decide +kernel
theorem dX9_next0_236 : decode cX9_next0 236 = .ok (.iload_n 1, 1) := by decide +kernel
theorem dX9_next0_237 : decode cX9_next0 237 = .ok (.bipush 45, 2) := by decide +kernel
theorem dX9_next0_239 : decode cX9_next0 239 = .ok (.if_icmp .eq 45, 3) := by decide +kernel
theorem dX9_next0_242 : decode cX9_next0 242 = .ok (.iload_n 1, 1) := by decide +kernel
theorem dX9_next0_243 : decode cX9_next0 243 = .ok (.bipush 42, 2) := by decide +kernel
theorem dX9_next0_245 : decode cX9_next0 245 = .ok (.if_icmp .eq 39, 3) := by decide +kernel
theorem dX9_next0_248 : decode cX9_next0 248 = .ok (.iload_n 1, 1) := by decide +kernel
theorem dX9_next0_249 : decode cX9_next0 249 = .ok (.bipush 47, 2) := by decide +kernel
theorem dX9_next0_251 : decode cX9_next0 251 = .ok (.if_icmp .eq 33, 3) := by decide +kernel
theorem dX9_next0_254 : decode cX9_next0 254 = .ok (.iload_n 1, 1) := by decide +kernel
theorem dX9_next0_255 : decode cX9_next0 255 = .ok (.bipush 40, 2) := by decide +kernel
theorem dX9_next0_257 : decode cX9_next0 257 = .ok (.if_icmp .eq 27, 3) := by decide +kernel
theorem dX9_next0_260 : decode cX9_next0 260 = .ok (.iload_n 1, 1) := by decide +kernel
theorem dX9_next0_261 : decode cX9_next0 261 = .ok (.bipush 41, 2) := by decide +kernel
theorem dX9_next0_263 : decode cX9_next0 263 = .ok (.if_icmp .eq 21, 3) := by decide +kernel
theorem dX9_next0_266 : decode cX9_next0 266 = .ok (.iload_n 1, 1) := by decide +kernel
theorem dX9_next0_267 : decode cX9_next0 267 = .ok (.bipush 60, 2) := by decide +kernel
theorem dX9_next0_269 : decode cX9_next0 269 = .ok (.if_icmp .eq 15, 3) := by decide +kernel
theorem dX9_next0_272 : decode cX9_next0 272 = .ok (.iload_n 1, 1) := by decide +kernel
theorem dX9_next0_273 : decode cX9_next0 273 = .ok (.bipush 61, 2) := by decide +kernel
theorem dX9_next0_275 : decode cX9_next0 275 = .ok (.if_icmp .eq 9, 3) := by decide +kernel
theorem dX9_next0_278 : decode cX9_next0 278 = .ok (.iload_n 1, 1) := by decide +kernel
theorem dX9_next0_279 : decode cX9_next0 279 = .ok (.bipush 62, 2) := by decide +kernel
theorem dX9_next0_281 : decode cX9_next0 281 = .ok (.if_icmp .ne 7, 3) := by decide +kernel
theorem dX9_next0_284 : decode cX9_next0 284 = .ok (.iconst 1, 1) := by decide +kernel
theorem dX9_next0_285 : decode cX9_next0 285 = .ok (.goto 4, 3) := by decide +kernel
theorem dX9_next0_288 : decode cX9_next0 288 = .ok (.iconst 0, 1) := by decide +kernel
theorem dX9_next0_289 : decode cX9_next0 289 = .ok (.istore_n 2, 1) := by decide +kernel
theorem dX9_next0_290 : decode cX9_next0 290 = .ok (.aload_n 0, 1) := by decide +kernel
theorem dX9_next0_291 : decode cX9_next0 291 = .ok (.iload_n 2, 1) := by decide +kernel
theorem dX9_next0_292 : decode cX9_next0 292 = .ok (.ifCond .eq 10, 3) := by decide +kernel
theorem dX9_next0_295 : decode cX9_next0 295 = .ok (.bipush 100, 2) := by decide +kernel
theorem dX9_next0_297 : decode cX9_next0 297 = .ok (.iload_n 1, 1) := by decide +kernel
theorem dX9_next0_298 : decode cX9_next0 298 = .ok (.iadd, 1) := by decide +kernel
theorem dX9_next0_299 : decode cX9_next0 299 = .ok (.goto 4, 3) := by decide +kernel
theorem dX9_next0_302 : decode cX9_next0 302 = .ok (.iconst 1, 1) := by decide +kernel
theorem dX9_next0_303 : decode cX9_next0 303 = .ok (.putfield 193, 3) := by decide +kernel
theorem dX9_next0_306 : decode cX9_next0 306 = .ok (.return_, 1) := by decide +kernel
theorem dX9_bad_0 : decode cX9_bad 0 = .ok (.aload_n 0, 1) := by decide +kernel
theorem dX9_bad_1 : decode cX9_bad 1 = .ok (.iload_n 1, 1) := by decide +kernel
theorem dX9_bad_2 : decode cX9_bad 2 = .ok (.putfield 208, 3) := by decide +kernel
theorem dX9_bad_5 : decode cX9_bad 5 = .ok (.aload_n 0, 1) := by decide +kernel
theorem dX9_bad_6 : decode cX9_bad 6 = .ok (.aload_n 0, 1) := by decide +kernel
theorem dX9_bad_7 : decode cX9_bad 7 = .ok (.getfield 100, 3) := by decide +kernel
theorem dX9_bad_10 : decode cX9_bad 10 = .ok (.putfield 211, 3) := by decide +kernel
theorem dX9_bad_13 : decode cX9_bad 13 = .ok (.iconst 0, 1) := by decide +kernel
theorem dX9_bad_14 : decode cX9_bad 14 = .ok (.ireturn, 1) := by decide +kernel
theorem dX9_need_0 : decode cX9_need 0 = .ok (.aload_n 0, 1) := by decide +kernel
theorem dX9_need_1 : decode cX9_need 1 = .ok (.getfield 193, 3) := by decide +kernel
theorem dX9_need_4 : decode cX9_need 4 = .ok (.iload_n 1, 1) := by decide +kernel
theorem dX9_need_5 : decode cX9_need 5 = .ok (.if_icmp .eq 9, 3) := by decide +kernel
theorem dX9_need_8 : decode cX9_need 8 = .ok (.aload_n 0, 1) := by decide +kernel
theorem dX9_need_9 : decode cX9_need 9 = .ok (.iconst 1, 1) := by decide +kernel
theorem dX9_need_10 : decode cX9_need 10 = .ok (.invokevirtual 214, 3) := by decide +kernel
theorem dX9_need_13 : decode cX9_need 13 = .ok (.ireturn, 1) := by decide +kernel
theorem dX9_need_14 : decode cX9_need 14 = .ok (.aload_n 0, 1) := by decide +kernel
theorem dX9_need_15 : decode cX9_need 15 = .ok (.invokevirtual 217, 3) := by decide +kernel
theorem dX9_need_18 : decode cX9_need 18 = .ok (.iconst 1, 1) := by decide +kernel
theorem dX9_need_19 : decode cX9_need 19 = .ok (.ireturn, 1) := by decide +kernel
theorem dX9_lay_0 : decode cX9_lay 0 = .ok (.aload_n 0, 1) := by decide +kernel
theorem dX9_lay_1 : decode cX9_lay 1 = .ok (.getfield 25, 3) := by decide +kernel
theorem dX9_lay_4 : decode cX9_lay 4 = .ok (.iconst 2, 1) := by decide +kernel
theorem dX9_lay_5 : decode cX9_lay 5 = .ok (.aload_n 0, 1) := by decide +kernel
theorem dX9_lay_6 : decode cX9_lay 6 = .ok (.getfield 220, 3) := by decide +kernel
theorem dX9_lay_9 : decode cX9_lay 9 = .ok (.imul, 1) := by decide +kernel
theorem dX9_lay_10 : decode cX9_lay 10 = .ok (.iload_n 1, 1) := by decide +kernel
theorem dX9_lay_11 : decode cX9_lay 11 = .ok (.iastore, 1) := by decide +kernel
theorem dX9_lay_12 : decode cX9_lay 12 = .ok (.aload_n 0, 1) := by decide +kernel
theorem dX9_lay_13 : decode cX9_lay 13 = .ok (.getfield 25, 3) := by decide +kernel
theorem dX9_lay_16 : decode cX9_lay 16 = .ok (.iconst 2, 1) := by decide +kernel
theorem dX9_lay_17 : decode cX9_lay 17 = .ok (.aload_n 0, 1) := by decide +kernel
theorem dX9_lay_18 : decode cX9_lay 18 = .ok (.getfield 220, 3) := by decide +kernel
theorem dX9_lay_21 : decode cX9_lay 21 = .ok (.imul, 1) := by decide +kernel
theorem dX9_lay_22 : decode cX9_lay 22 = .ok (.iconst 1, 1) := by decide +kernel
theorem dX9_lay_23 : decode cX9_lay 23 = .ok (.iadd, 1) := by decide +kernel
theorem dX9_lay_24 : decode cX9_lay 24 = .ok (.iload_n 2, 1) := by decide +kernel
theorem dX9_lay_25 : decode cX9_lay 25 = .ok (.iastore, 1) := by decide +kernel
theorem dX9_lay_26 : decode cX9_lay 26 = .ok (.aload_n 0, 1) := by decide +kernel
theorem dX9_lay_27 : decode cX9_lay 27 = .ok (.dup, 1) := by decide +kernel
theorem dX9_lay_28 : decode cX9_lay 28 = .ok (.getfield 220, 3) := by decide +kernel
theorem dX9_lay_31 : decode cX9_lay 31 = .ok (.iconst 1, 1) := by decide +kernel
theorem dX9_lay_32 : decode cX9_lay 32 = .ok (.iadd, 1) := by decide +kernel
theorem dX9_lay_33 : decode cX9_lay 33 = .ok (.putfield 220, 3) := by decide +kernel
theorem dX9_lay_36 : decode cX9_lay 36 = .ok (.return_, 1) := by decide +kernel
theorem dX9_opens_0 : decode cX9_opens 0 = .ok (.aload_n 0, 1) := by decide +kernel
theorem dX9_opens_1 : decode cX9_opens 1 = .ok (.getfield 223, 3) := by decide +kernel
theorem dX9_opens_4 : decode cX9_opens 4 = .ok (.bipush 8, 2) := by decide +kernel
theorem dX9_opens_6 : decode cX9_opens 6 = .ok (.if_icmp .ne 9, 3) := by decide +kernel
theorem dX9_opens_9 : decode cX9_opens 9 = .ok (.aload_n 0, 1) := by decide +kernel
theorem dX9_opens_10 : decode cX9_opens 10 = .ok (.iconst 3, 1) := by decide +kernel
theorem dX9_opens_11 : decode cX9_opens 11 = .ok (.invokevirtual 214, 3) := by decide +kernel
theorem dX9_opens_14 : decode cX9_opens 14 = .ok (.ireturn, 1) := by decide +kernel
theorem dX9_opens_15 : decode cX9_opens 15 = .ok (.aload_n 0, 1) := by decide +kernel
theorem dX9_opens_16 : decode cX9_opens 16 = .ok (.dup, 1) := by decide +kernel
theorem dX9_opens_17 : decode cX9_opens 17 = .ok (.getfield 223, 3) := by decide +kernel
theorem dX9_opens_20 : decode cX9_opens 20 = .ok (.iconst 1, 1) := by decide +kernel
theorem dX9_opens_21 : decode cX9_opens 21 = .ok (.iadd, 1) := by decide +kernel
theorem dX9_opens_22 : decode cX9_opens 22 = .ok (.putfield 223, 3) := by decide +kernel
theorem dX9_opens_25 : decode cX9_opens 25 = .ok (.aload_n 0, 1) := by decide +kernel
theorem dX9_opens_26 : decode cX9_opens 26 = .ok (.invokevirtual 217, 3) := by decide +kernel
theorem dX9_opens_29 : decode cX9_opens 29 = .ok (.iconst 1, 1) := by decide +kernel
theorem dX9_opens_30 : decode cX9_opens 30 = .ok (.ireturn, 1) := by decide +kernel
theorem dX9_sumUp_0 : decode cX9_sumUp 0 = .ok (.aload_n 0, 1) := by decide +kernel
theorem dX9_sumUp_1 : decode cX9_sumUp 1 = .ok (.invokevirtual 226, 3) := by decide +kernel
theorem dX9_sumUp_4 : decode cX9_sumUp 4 = .ok (.ifCond .ne 5, 3) := by decide +kernel
theorem dX9_sumUp_7 : decode cX9_sumUp 7 = .ok (.iconst 0, 1) := by decide +kernel
theorem dX9_sumUp_8 : decode cX9_sumUp 8 = .ok (.ireturn, 1) := by decide +kernel
theorem dX9_sumUp_9 : decode cX9_sumUp 9 = .ok (.aload_n 0, 1) := by decide +kernel
theorem dX9_sumUp_10 : decode cX9_sumUp 10 = .ok (.getfield 193, 3) := by decide +kernel
theorem dX9_sumUp_13 : decode cX9_sumUp 13 = .ok (.sipush 143, 3) := by decide +kernel
theorem dX9_sumUp_16 : decode cX9_sumUp 16 = .ok (.if_icmp .eq 13, 3) := by decide +kernel
theorem dX9_sumUp_19 : decode cX9_sumUp 19 = .ok (.aload_n 0, 1) := by decide +kernel
theorem dX9_sumUp_20 : decode cX9_sumUp 20 = .ok (.getfield 193, 3) := by decide +kernel
theorem dX9_sumUp_23 : decode cX9_sumUp 23 = .ok (.sipush 145, 3) := by decide +kernel
theorem dX9_sumUp_26 : decode cX9_sumUp 26 = .ok (.if_icmp .ne 43, 3) := by decide +kernel
theorem dX9_sumUp_29 : decode cX9_sumUp 29 = .ok (.aload_n 0, 1) := by decide +kernel
theorem dX9_sumUp_30 : decode cX9_sumUp 30 = .ok (.getfield 193, 3) := by decide +kernel
theorem dX9_sumUp_33 : decode cX9_sumUp 33 = .ok (.sipush 143, 3) := by decide +kernel
theorem dX9_sumUp_36 : decode cX9_sumUp 36 = .ok (.if_icmp .ne 8, 3) := by decide +kernel
theorem dX9_sumUp_39 : decode cX9_sumUp 39 = .ok (.bipush 23, 2) := by decide +kernel
theorem dX9_sumUp_41 : decode cX9_sumUp 41 = .ok (.goto 5, 3) := by decide +kernel
theorem dX9_sumUp_44 : decode cX9_sumUp 44 = .ok (.bipush 24, 2) := by decide +kernel
theorem dX9_sumUp_46 : decode cX9_sumUp 46 = .ok (.istore_n 1, 1) := by decide +kernel
theorem dX9_sumUp_47 : decode cX9_sumUp 47 = .ok (.aload_n 0, 1) := by decide +kernel
theorem dX9_sumUp_48 : decode cX9_sumUp 48 = .ok (.invokevirtual 217, 3) := by decide +kernel
theorem dX9_sumUp_51 : decode cX9_sumUp 51 = .ok (.aload_n 0, 1) := by decide +kernel
theorem dX9_sumUp_52 : decode cX9_sumUp 52 = .ok (.invokevirtual 226, 3) := by decide +kernel
theorem dX9_sumUp_55 : decode cX9_sumUp 55 = .ok (.ifCond .ne 5, 3) := by decide +kernel
theorem dX9_sumUp_58 : decode cX9_sumUp 58 = .ok (.iconst 0, 1) := by decide +kernel
theorem dX9_sumUp_59 : decode cX9_sumUp 59 = .ok (.ireturn, 1) := by decide +kernel
theorem dX9_sumUp_60 : decode cX9_sumUp 60 = .ok (.aload_n 0, 1) := by decide +kernel
theorem dX9_sumUp_61 : decode cX9_sumUp 61 = .ok (.iload_n 1, 1) := by decide +kernel
theorem dX9_sumUp_62 : decode cX9_sumUp 62 = .ok (.iconst 0, 1) := by decide +kernel
theorem dX9_sumUp_63 : decode cX9_sumUp 63 = .ok (.invokevirtual 230, 3) := by decide +kernel
theorem dX9_sumUp_66 : decode cX9_sumUp 66 = .ok (.goto (-57), 3) := by decide +kernel
theorem dX9_sumUp_69 : decode cX9_sumUp 69 = .ok (.iconst 1, 1) := by decide +kernel
theorem dX9_sumUp_70 : decode cX9_sumUp 70 = .ok (.ireturn, 1) := by decide +kernel
theorem dX9_product_0 : decode cX9_product 0 = .ok (.aload_n 0, 1) := by decide +kernel
theorem dX9_product_1 : decode cX9_product 1 = .ok (.invokevirtual 234, 3) := by decide +kernel
theorem dX9_product_4 : decode cX9_product 4 = .ok (.ifCond .ne 5, 3) := by decide +kernel
theorem dX9_product_7 : decode cX9_product 7 = .ok (.iconst 0, 1) := by decide +kernel
theorem dX9_product_8 : decode cX9_product 8 = .ok (.ireturn, 1) := by decide +kernel
theorem dX9_product_9 : decode cX9_product 9 = .ok (.aload_n 0, 1) := by decide +kernel
theorem dX9_product_10 : decode cX9_product 10 = .ok (.getfield 193, 3) := by decide +kernel
theorem dX9_product_13 : decode cX9_product 13 = .ok (.sipush 142, 3) := by decide +kernel
theorem dX9_product_16 : decode cX9_product 16 = .ok (.if_icmp .eq 13, 3) := by decide +kernel
theorem dX9_product_19 : decode cX9_product 19 = .ok (.aload_n 0, 1) := by decide +kernel
theorem dX9_product_20 : decode cX9_product 20 = .ok (.getfield 193, 3) := by decide +kernel
theorem dX9_product_23 : decode cX9_product 23 = .ok (.sipush 147, 3) := by decide +kernel
theorem dX9_product_26 : decode cX9_product 26 = .ok (.if_icmp .ne 89, 3) := by decide +kernel
theorem dX9_product_29 : decode cX9_product 29 = .ok (.aload_n 0, 1) := by decide +kernel
theorem dX9_product_30 : decode cX9_product 30 = .ok (.getfield 193, 3) := by decide +kernel
theorem dX9_product_33 : decode cX9_product 33 = .ok (.sipush 147, 3) := by decide +kernel
theorem dX9_product_36 : decode cX9_product 36 = .ok (.if_icmp .ne 7, 3) := by decide +kernel
theorem dX9_product_39 : decode cX9_product 39 = .ok (.iconst 1, 1) := by decide +kernel
theorem dX9_product_40 : decode cX9_product 40 = .ok (.goto 4, 3) := by decide +kernel
theorem dX9_product_43 : decode cX9_product 43 = .ok (.iconst 0, 1) := by decide +kernel
theorem dX9_product_44 : decode cX9_product 44 = .ok (.istore_n 1, 1) := by decide +kernel
theorem dX9_product_45 : decode cX9_product 45 = .ok (.aload_n 0, 1) := by decide +kernel
theorem dX9_product_46 : decode cX9_product 46 = .ok (.invokevirtual 217, 3) := by decide +kernel
theorem dX9_product_49 : decode cX9_product 49 = .ok (.iload_n 1, 1) := by decide +kernel
theorem dX9_product_50 : decode cX9_product 50 = .ok (.ifCond .eq 46, 3) := by decide +kernel
theorem dX9_product_53 : decode cX9_product 53 = .ok (.aload_n 0, 1) := by decide +kernel
theorem dX9_product_54 : decode cX9_product 54 = .ok (.getfield 205, 3) := by decide +kernel
theorem dX9_product_57 : decode cX9_product 57 = .ok (.istore_n 2, 1) := by decide +kernel
theorem dX9_product_58 : decode cX9_product 58 = .ok (.aload_n 0, 1) := by decide +kernel
theorem dX9_product_59 : decode cX9_product 59 = .ok (.getfield 193, 3) := by decide +kernel
theorem dX9_product_62 : decode cX9_product 62 = .ok (.iconst 2, 1) := by decide +kernel
theorem dX9_product_63 : decode cX9_product 63 = .ok (.if_icmp .eq 9, 3) := by decide +kernel
theorem dX9_product_66 : decode cX9_product 66 = .ok (.aload_n 0, 1) := by decide +kernel
theorem dX9_product_67 : decode cX9_product 67 = .ok (.iconst 1, 1) := by decide +kernel
theorem dX9_product_68 : decode cX9_product 68 = .ok (.invokevirtual 214, 3) := by decide +kernel
theorem dX9_product_71 : decode cX9_product 71 = .ok (.ireturn, 1) := by decide +kernel
theorem dX9_product_72 : decode cX9_product 72 = .ok (.iload_n 2, 1) := by decide +kernel
theorem dX9_product_73 : decode cX9_product 73 = .ok (.ifCond .ne 9, 3) := by decide +kernel
theorem dX9_product_76 : decode cX9_product 76 = .ok (.aload_n 0, 1) := by decide +kernel
theorem dX9_product_77 : decode cX9_product 77 = .ok (.iconst 2, 1) := by decide +kernel
theorem dX9_product_78 : decode cX9_product 78 = .ok (.invokevirtual 214, 3) := by decide +kernel
theorem dX9_product_81 : decode cX9_product 81 = .ok (.ireturn, 1) := by decide +kernel
theorem dX9_product_82 : decode cX9_product 82 = .ok (.aload_n 0, 1) := by decide +kernel
theorem dX9_product_83 : decode cX9_product 83 = .ok (.invokevirtual 217, 3) := by decide +kernel
theorem dX9_product_86 : decode cX9_product 86 = .ok (.aload_n 0, 1) := by decide +kernel
theorem dX9_product_87 : decode cX9_product 87 = .ok (.bipush 26, 2) := by decide +kernel
theorem dX9_product_89 : decode cX9_product 89 = .ok (.iload_n 2, 1) := by decide +kernel
theorem dX9_product_90 : decode cX9_product 90 = .ok (.invokevirtual 230, 3) := by decide +kernel
theorem dX9_product_93 : decode cX9_product 93 = .ok (.goto 19, 3) := by decide +kernel
theorem dX9_product_96 : decode cX9_product 96 = .ok (.aload_n 0, 1) := by decide +kernel
theorem dX9_product_97 : decode cX9_product 97 = .ok (.invokevirtual 234, 3) := by decide +kernel
theorem dX9_product_100 : decode cX9_product 100 = .ok (.ifCond .ne 5, 3) := by decide +kernel
theorem dX9_product_103 : decode cX9_product 103 = .ok (.iconst 0, 1) := by decide +kernel
theorem dX9_product_104 : decode cX9_product 104 = .ok (.ireturn, 1) := by decide +kernel
theorem dX9_product_105 : decode cX9_product 105 = .ok (.aload_n 0, 1) := by decide +kernel
theorem dX9_product_106 : decode cX9_product 106 = .ok (.bipush 25, 2) := by decide +kernel
theorem dX9_product_108 : decode cX9_product 108 = .ok (.iconst 0, 1) := by decide +kernel
theorem dX9_product_109 : decode cX9_product 109 = .ok (.invokevirtual 230, 3) := by decide +kernel
theorem dX9_product_112 : decode cX9_product 112 = .ok (.goto (-103), 3) := by decide +kernel
theorem dX9_product_115 : decode cX9_product 115 = .ok (.iconst 1, 1) := by decide +kernel
theorem dX9_product_116 : decode cX9_product 116 = .ok (.ireturn, 1) := by decide +kernel
theorem dX9_unit_0 : decode cX9_unit 0 = .ok (.aload_n 0, 1) := by decide +kernel
theorem dX9_unit_1 : decode cX9_unit 1 = .ok (.getfield 193, 3) := by decide +kernel
theorem dX9_unit_4 : decode cX9_unit 4 = .ok (.bipush 41, 2) := by decide +kernel
theorem dX9_unit_6 : decode cX9_unit 6 = .ok (.bipush 50, 2) := by decide +kernel
theorem dX9_unit_8 : decode cX9_unit 8 = .ok (.invokestatic 72, 3) := by decide +kernel
theorem dX9_unit_11 : decode cX9_unit 11 = .ok (.istore_n 1, 1) := by decide +kernel
theorem dX9_unit_12 : decode cX9_unit 12 = .ok (.aload_n 0, 1) := by decide +kernel
theorem dX9_unit_13 : decode cX9_unit 13 = .ok (.getfield 193, 3) := by decide +kernel
theorem dX9_unit_16 : decode cX9_unit 16 = .ok (.iconst 2, 1) := by decide +kernel
theorem dX9_unit_17 : decode cX9_unit 17 = .ok (.if_icmp .eq 13, 3) := by decide +kernel
theorem dX9_unit_20 : decode cX9_unit 20 = .ok (.iload_n 1, 1) := by decide +kernel
theorem dX9_unit_21 : decode cX9_unit 21 = .ok (.ifCond .ne 9, 3) := by decide +kernel
theorem dX9_unit_24 : decode cX9_unit 24 = .ok (.aload_n 0, 1) := by decide +kernel
theorem dX9_unit_25 : decode cX9_unit 25 = .ok (.iconst 1, 1) := by decide +kernel
theorem dX9_unit_26 : decode cX9_unit 26 = .ok (.invokevirtual 214, 3) := by decide +kernel
theorem dX9_unit_29 : decode cX9_unit 29 = .ok (.ireturn, 1) := by decide +kernel
theorem dX9_unit_30 : decode cX9_unit 30 = .ok (.aload_n 0, 1) := by decide +kernel
theorem dX9_unit_31 : decode cX9_unit 31 = .ok (.iload_n 1, 1) := by decide +kernel
theorem dX9_unit_32 : decode cX9_unit 32 = .ok (.ifCond .eq 13, 3) := by decide +kernel
theorem dX9_unit_35 : decode cX9_unit 35 = .ok (.aload_n 0, 1) := by decide +kernel
theorem dX9_unit_36 : decode cX9_unit 36 = .ok (.getfield 193, 3) := by decide +kernel
theorem dX9_unit_39 : decode cX9_unit 39 = .ok (.bipush 40, 2) := by decide +kernel
theorem dX9_unit_41 : decode cX9_unit 41 = .ok (.isub, 1) := by decide +kernel
theorem dX9_unit_42 : decode cX9_unit 42 = .ok (.goto 4, 3) := by decide +kernel
theorem dX9_unit_45 : decode cX9_unit 45 = .ok (.iconst 0, 1) := by decide +kernel
theorem dX9_unit_46 : decode cX9_unit 46 = .ok (.aload_n 0, 1) := by decide +kernel
theorem dX9_unit_47 : decode cX9_unit 47 = .ok (.getfield 205, 3) := by decide +kernel
theorem dX9_unit_50 : decode cX9_unit 50 = .ok (.invokevirtual 230, 3) := by decide +kernel
theorem dX9_unit_53 : decode cX9_unit 53 = .ok (.aload_n 0, 1) := by decide +kernel
theorem dX9_unit_54 : decode cX9_unit 54 = .ok (.invokevirtual 217, 3) := by decide +kernel
theorem dX9_unit_57 : decode cX9_unit 57 = .ok (.iconst 1, 1) := by decide +kernel
theorem dX9_unit_58 : decode cX9_unit 58 = .ok (.ireturn, 1) := by decide +kernel
theorem dX9_any_0 : decode cX9_any 0 = .ok (.aload_n 0, 1) := by decide +kernel
theorem dX9_any_1 : decode cX9_any 1 = .ok (.invokevirtual 237, 3) := by decide +kernel
theorem dX9_any_4 : decode cX9_any 4 = .ok (.ifCond .ne 5, 3) := by decide +kernel
theorem dX9_any_7 : decode cX9_any 7 = .ok (.iconst 0, 1) := by decide +kernel
theorem dX9_any_8 : decode cX9_any 8 = .ok (.ireturn, 1) := by decide +kernel
theorem dX9_any_9 : decode cX9_any 9 = .ok (.aload_n 0, 1) := by decide +kernel
theorem dX9_any_10 : decode cX9_any 10 = .ok (.getfield 193, 3) := by decide +kernel
theorem dX9_any_13 : decode cX9_any 13 = .ok (.iconst 4, 1) := by decide +kernel
theorem dX9_any_14 : decode cX9_any 14 = .ok (.if_icmp .ne 26, 3) := by decide +kernel
theorem dX9_any_17 : decode cX9_any 17 = .ok (.aload_n 0, 1) := by decide +kernel
theorem dX9_any_18 : decode cX9_any 18 = .ok (.invokevirtual 217, 3) := by decide +kernel
theorem dX9_any_21 : decode cX9_any 21 = .ok (.aload_n 0, 1) := by decide +kernel
theorem dX9_any_22 : decode cX9_any 22 = .ok (.invokevirtual 237, 3) := by decide +kernel
theorem dX9_any_25 : decode cX9_any 25 = .ok (.ifCond .ne 5, 3) := by decide +kernel
theorem dX9_any_28 : decode cX9_any 28 = .ok (.iconst 0, 1) := by decide +kernel
theorem dX9_any_29 : decode cX9_any 29 = .ok (.ireturn, 1) := by decide +kernel
theorem dX9_any_30 : decode cX9_any 30 = .ok (.aload_n 0, 1) := by decide +kernel
theorem dX9_any_31 : decode cX9_any 31 = .ok (.bipush 32, 2) := by decide +kernel
theorem dX9_any_33 : decode cX9_any 33 = .ok (.iconst 0, 1) := by decide +kernel
theorem dX9_any_34 : decode cX9_any 34 = .ok (.invokevirtual 230, 3) := by decide +kernel
theorem dX9_any_37 : decode cX9_any 37 = .ok (.goto (-28), 3) := by decide +kernel
theorem dX9_any_40 : decode cX9_any 40 = .ok (.iconst 1, 1) := by decide +kernel
theorem dX9_any_41 : decode cX9_any 41 = .ok (.ireturn, 1) := by decide +kernel
theorem dX9_every_0 : decode cX9_every 0 = .ok (.aload_n 0, 1) := by decide +kernel
theorem dX9_every_1 : decode cX9_every 1 = .ok (.invokevirtual 240, 3) := by decide +kernel
theorem dX9_every_4 : decode cX9_every 4 = .ok (.ifCond .ne 5, 3) := by decide +kernel
theorem dX9_every_7 : decode cX9_every 7 = .ok (.iconst 0, 1) := by decide +kernel
theorem dX9_every_8 : decode cX9_every 8 = .ok (.ireturn, 1) := by decide +kernel
theorem dX9_every_9 : decode cX9_every 9 = .ok (.aload_n 0, 1) := by decide +kernel
theorem dX9_every_10 : decode cX9_every 10 = .ok (.getfield 193, 3) := by decide +kernel
theorem dX9_every_13 : decode cX9_every 13 = .ok (.iconst 5, 1) := by decide +kernel
theorem dX9_every_14 : decode cX9_every 14 = .ok (.if_icmp .ne 26, 3) := by decide +kernel
theorem dX9_every_17 : decode cX9_every 17 = .ok (.aload_n 0, 1) := by decide +kernel
theorem dX9_every_18 : decode cX9_every 18 = .ok (.invokevirtual 217, 3) := by decide +kernel
theorem dX9_every_21 : decode cX9_every 21 = .ok (.aload_n 0, 1) := by decide +kernel
theorem dX9_every_22 : decode cX9_every 22 = .ok (.invokevirtual 240, 3) := by decide +kernel
theorem dX9_every_25 : decode cX9_every 25 = .ok (.ifCond .ne 5, 3) := by decide +kernel
theorem dX9_every_28 : decode cX9_every 28 = .ok (.iconst 0, 1) := by decide +kernel
theorem dX9_every_29 : decode cX9_every 29 = .ok (.ireturn, 1) := by decide +kernel
theorem dX9_every_30 : decode cX9_every 30 = .ok (.aload_n 0, 1) := by decide +kernel
theorem dX9_every_31 : decode cX9_every 31 = .ok (.bipush 31, 2) := by decide +kernel
theorem dX9_every_33 : decode cX9_every 33 = .ok (.iconst 0, 1) := by decide +kernel
theorem dX9_every_34 : decode cX9_every 34 = .ok (.invokevirtual 230, 3) := by decide +kernel
theorem dX9_every_37 : decode cX9_every 37 = .ok (.goto (-28), 3) := by decide +kernel
theorem dX9_every_40 : decode cX9_every 40 = .ok (.iconst 1, 1) := by decide +kernel
theorem dX9_every_41 : decode cX9_every 41 = .ok (.ireturn, 1) := by decide +kernel
theorem dX9_oneTest_0 : decode cX9_oneTest 0 = .ok (.aload_n 0, 1) := by decide +kernel
theorem dX9_oneTest_1 : decode cX9_oneTest 1 = .ok (.getfield 193, 3) := by decide +kernel
theorem dX9_oneTest_4 : decode cX9_oneTest 4 = .ok (.bipush 6, 2) := by decide +kernel
theorem dX9_oneTest_6 : decode cX9_oneTest 6 = .ok (.if_icmp .ne 38, 3) := by decide +kernel
theorem dX9_oneTest_9 : decode cX9_oneTest 9 = .ok (.aload_n 0, 1) := by decide +kernel
theorem dX9_oneTest_10 : decode cX9_oneTest 10 = .ok (.invokevirtual 243, 3) := by decide +kernel
theorem dX9_oneTest_13 : decode cX9_oneTest 13 = .ok (.ifCond .eq 10, 3) := by decide +kernel
theorem dX9_oneTest_16 : decode cX9_oneTest 16 = .ok (.aload_n 0, 1) := by decide +kernel
theorem dX9_oneTest_17 : decode cX9_oneTest 17 = .ok (.invokevirtual 240, 3) := by decide +kernel
theorem dX9_oneTest_20 : decode cX9_oneTest 20 = .ok (.ifCond .ne 5, 3) := by decide +kernel
theorem dX9_oneTest_23 : decode cX9_oneTest 23 = .ok (.iconst 0, 1) := by decide +kernel
theorem dX9_oneTest_24 : decode cX9_oneTest 24 = .ok (.ireturn, 1) := by decide +kernel
theorem dX9_oneTest_25 : decode cX9_oneTest 25 = .ok (.aload_n 0, 1) := by decide +kernel
theorem dX9_oneTest_26 : decode cX9_oneTest 26 = .ok (.dup, 1) := by decide +kernel
theorem dX9_oneTest_27 : decode cX9_oneTest 27 = .ok (.getfield 223, 3) := by decide +kernel
theorem dX9_oneTest_30 : decode cX9_oneTest 30 = .ok (.iconst 1, 1) := by decide +kernel
theorem dX9_oneTest_31 : decode cX9_oneTest 31 = .ok (.isub, 1) := by decide +kernel
theorem dX9_oneTest_32 : decode cX9_oneTest 32 = .ok (.putfield 223, 3) := by decide +kernel
theorem dX9_oneTest_35 : decode cX9_oneTest 35 = .ok (.aload_n 0, 1) := by decide +kernel
theorem dX9_oneTest_36 : decode cX9_oneTest 36 = .ok (.bipush 30, 2) := by decide +kernel
theorem dX9_oneTest_38 : decode cX9_oneTest 38 = .ok (.iconst 0, 1) := by decide +kernel
theorem dX9_oneTest_39 : decode cX9_oneTest 39 = .ok (.invokevirtual 230, 3) := by decide +kernel
theorem dX9_oneTest_42 : decode cX9_oneTest 42 = .ok (.iconst 1, 1) := by decide +kernel
theorem dX9_oneTest_43 : decode cX9_oneTest 43 = .ok (.ireturn, 1) := by decide +kernel
theorem dX9_oneTest_44 : decode cX9_oneTest 44 = .ok (.aload_n 0, 1) := by decide +kernel
theorem dX9_oneTest_45 : decode cX9_oneTest 45 = .ok (.getfield 193, 3) := by decide +kernel
theorem dX9_oneTest_48 : decode cX9_oneTest 48 = .ok (.sipush 140, 3) := by decide +kernel
theorem dX9_oneTest_51 : decode cX9_oneTest 51 = .ok (.if_icmp .ne 41, 3) := by decide +kernel
theorem dX9_oneTest_54 : decode cX9_oneTest 54 = .ok (.aload_n 0, 1) := by decide +kernel
theorem dX9_oneTest_55 : decode cX9_oneTest 55 = .ok (.invokevirtual 243, 3) := by decide +kernel
theorem dX9_oneTest_58 : decode cX9_oneTest 58 = .ok (.ifCond .eq 20, 3) := by decide +kernel
theorem dX9_oneTest_61 : decode cX9_oneTest 61 = .ok (.aload_n 0, 1) := by decide +kernel
theorem dX9_oneTest_62 : decode cX9_oneTest 62 = .ok (.invokevirtual 246, 3) := by decide +kernel
theorem dX9_oneTest_65 : decode cX9_oneTest 65 = .ok (.ifCond .eq 13, 3) := by decide +kernel
theorem dX9_oneTest_68 : decode cX9_oneTest 68 = .ok (.aload_n 0, 1) := by decide +kernel
theorem dX9_oneTest_69 : decode cX9_oneTest 69 = .ok (.sipush 141, 3) := by decide +kernel
theorem dX9_oneTest_72 : decode cX9_oneTest 72 = .ok (.invokevirtual 249, 3) := by decide +kernel
theorem dX9_oneTest_75 : decode cX9_oneTest 75 = .ok (.ifCond .ne 5, 3) := by decide +kernel
theorem dX9_oneTest_78 : decode cX9_oneTest 78 = .ok (.iconst 0, 1) := by decide +kernel
theorem dX9_oneTest_79 : decode cX9_oneTest 79 = .ok (.ireturn, 1) := by decide +kernel
theorem dX9_oneTest_80 : decode cX9_oneTest 80 = .ok (.aload_n 0, 1) := by decide +kernel
theorem dX9_oneTest_81 : decode cX9_oneTest 81 = .ok (.dup, 1) := by decide +kernel
theorem dX9_oneTest_82 : decode cX9_oneTest 82 = .ok (.getfield 223, 3) := by decide +kernel
theorem dX9_oneTest_85 : decode cX9_oneTest 85 = .ok (.iconst 1, 1) := by decide +kernel
theorem dX9_oneTest_86 : decode cX9_oneTest 86 = .ok (.isub, 1) := by decide +kernel
theorem dX9_oneTest_87 : decode cX9_oneTest 87 = .ok (.putfield 223, 3) := by decide +kernel
theorem dX9_oneTest_90 : decode cX9_oneTest 90 = .ok (.iconst 1, 1) := by decide +kernel
theorem dX9_oneTest_91 : decode cX9_oneTest 91 = .ok (.ireturn, 1) := by decide +kernel
theorem dX9_oneTest_92 : decode cX9_oneTest 92 = .ok (.aload_n 0, 1) := by decide +kernel
theorem dX9_oneTest_93 : decode cX9_oneTest 93 = .ok (.invokevirtual 252, 3) := by decide +kernel
theorem dX9_oneTest_96 : decode cX9_oneTest 96 = .ok (.ifCond .ne 5, 3) := by decide +kernel
theorem dX9_oneTest_99 : decode cX9_oneTest 99 = .ok (.iconst 0, 1) := by decide +kernel
theorem dX9_oneTest_100 : decode cX9_oneTest 100 = .ok (.ireturn, 1) := by decide +kernel
theorem dX9_oneTest_101 : decode cX9_oneTest 101 = .ok (.aload_n 0, 1) := by decide +kernel
theorem dX9_oneTest_102 : decode cX9_oneTest 102 = .ok (.getfield 193, 3) := by decide +kernel
theorem dX9_oneTest_105 : decode cX9_oneTest 105 = .ok (.sipush 160, 3) := by decide +kernel
theorem dX9_oneTest_108 : decode cX9_oneTest 108 = .ok (.if_icmp .ne 8, 3) := by decide +kernel
theorem dX9_oneTest_111 : decode cX9_oneTest 111 = .ok (.bipush 27, 2) := by decide +kernel
theorem dX9_oneTest_113 : decode cX9_oneTest 113 = .ok (.goto 34, 3) := by decide +kernel
theorem dX9_oneTest_116 : decode cX9_oneTest 116 = .ok (.aload_n 0, 1) := by decide +kernel
theorem dX9_oneTest_117 : decode cX9_oneTest 117 = .ok (.getfield 193, 3) := by decide +kernel
theorem dX9_oneTest_120 : decode cX9_oneTest 120 = .ok (.sipush 161, 3) := by decide +kernel
theorem dX9_oneTest_123 : decode cX9_oneTest 123 = .ok (.if_icmp .ne 8, 3) := by decide +kernel
theorem dX9_oneTest_126 : decode cX9_oneTest 126 = .ok (.bipush 28, 2) := by decide +kernel
theorem dX9_oneTest_128 : decode cX9_oneTest 128 = .ok (.goto 19, 3) := by decide +kernel
theorem dX9_oneTest_131 : decode cX9_oneTest 131 = .ok (.aload_n 0, 1) := by decide +kernel
theorem dX9_oneTest_132 : decode cX9_oneTest 132 = .ok (.getfield 193, 3) := by decide +kernel
theorem dX9_oneTest_135 : decode cX9_oneTest 135 = .ok (.sipush 162, 3) := by decide +kernel
theorem dX9_oneTest_138 : decode cX9_oneTest 138 = .ok (.if_icmp .ne 8, 3) := by decide +kernel
theorem dX9_oneTest_141 : decode cX9_oneTest 141 = .ok (.bipush 29, 2) := by decide +kernel
theorem dX9_oneTest_143 : decode cX9_oneTest 143 = .ok (.goto 4, 3) := by decide +kernel
theorem dX9_oneTest_146 : decode cX9_oneTest 146 = .ok (.iconst (-1), 1) := by decide +kernel
theorem dX9_oneTest_147 : decode cX9_oneTest 147 = .ok (.istore_n 1, 1) := by decide +kernel
theorem dX9_oneTest_148 : decode cX9_oneTest 148 = .ok (.iload_n 1, 1) := by decide +kernel
theorem dX9_oneTest_149 : decode cX9_oneTest 149 = .ok (.iconst (-1), 1) := by decide +kernel
theorem dX9_oneTest_150 : decode cX9_oneTest 150 = .ok (.if_icmp .ne 9, 3) := by decide +kernel
theorem dX9_oneTest_153 : decode cX9_oneTest 153 = .ok (.aload_n 0, 1) := by decide +kernel
theorem dX9_oneTest_154 : decode cX9_oneTest 154 = .ok (.iconst 1, 1) := by decide +kernel
theorem dX9_oneTest_155 : decode cX9_oneTest 155 = .ok (.invokevirtual 214, 3) := by decide +kernel
theorem dX9_oneTest_158 : decode cX9_oneTest 158 = .ok (.ireturn, 1) := by decide +kernel
theorem dX9_oneTest_159 : decode cX9_oneTest 159 = .ok (.aload_n 0, 1) := by decide +kernel
theorem dX9_oneTest_160 : decode cX9_oneTest 160 = .ok (.invokevirtual 217, 3) := by decide +kernel
theorem dX9_oneTest_163 : decode cX9_oneTest 163 = .ok (.aload_n 0, 1) := by decide +kernel
theorem dX9_oneTest_164 : decode cX9_oneTest 164 = .ok (.invokevirtual 252, 3) := by decide +kernel
theorem dX9_oneTest_167 : decode cX9_oneTest 167 = .ok (.ifCond .ne 5, 3) := by decide +kernel
theorem dX9_oneTest_170 : decode cX9_oneTest 170 = .ok (.iconst 0, 1) := by decide +kernel
theorem dX9_oneTest_171 : decode cX9_oneTest 171 = .ok (.ireturn, 1) := by decide +kernel
theorem dX9_oneTest_172 : decode cX9_oneTest 172 = .ok (.aload_n 0, 1) := by decide +kernel
theorem dX9_oneTest_173 : decode cX9_oneTest 173 = .ok (.iload_n 1, 1) := by decide +kernel
theorem dX9_oneTest_174 : decode cX9_oneTest 174 = .ok (.iconst 0, 1) := by decide +kernel
theorem dX9_oneTest_175 : decode cX9_oneTest 175 = .ok (.invokevirtual 230, 3) := by decide +kernel
theorem dX9_oneTest_178 : decode cX9_oneTest 178 = .ok (.iconst 1, 1) := by decide +kernel
theorem dX9_oneTest_179 : decode cX9_oneTest 179 = .ok (.ireturn, 1) := by decide +kernel
theorem dX9_aLine_0 : decode cX9_aLine 0 = .ok (.aload_n 0, 1) := by decide +kernel
theorem dX9_aLine_1 : decode cX9_aLine 1 = .ok (.getfield 193, 3) := by decide +kernel
theorem dX9_aLine_4 : decode cX9_aLine 4 = .ok (.bipush 20, 2) := by decide +kernel
theorem dX9_aLine_6 : decode cX9_aLine 6 = .ok (.bipush 24, 2) := by decide +kernel
theorem dX9_aLine_8 : decode cX9_aLine 8 = .ok (.invokestatic 72, 3) := by decide +kernel
theorem dX9_aLine_11 : decode cX9_aLine 11 = .ok (.ifCond .ne 9, 3) := by decide +kernel
theorem dX9_aLine_14 : decode cX9_aLine 14 = .ok (.aload_n 0, 1) := by decide +kernel
theorem dX9_aLine_15 : decode cX9_aLine 15 = .ok (.iconst 1, 1) := by decide +kernel
theorem dX9_aLine_16 : decode cX9_aLine 16 = .ok (.invokevirtual 214, 3) := by decide +kernel
theorem dX9_aLine_19 : decode cX9_aLine 19 = .ok (.ireturn, 1) := by decide +kernel
theorem dX9_aLine_20 : decode cX9_aLine 20 = .ok (.aload_n 0, 1) := by decide +kernel
theorem dX9_aLine_21 : decode cX9_aLine 21 = .ok (.getfield 255, 3) := by decide +kernel
theorem dX9_aLine_24 : decode cX9_aLine 24 = .ok (.bipush 16, 2) := by decide +kernel
theorem dX9_aLine_26 : decode cX9_aLine 26 = .ok (.if_icmp .ne 9, 3) := by decide +kernel
theorem dX9_aLine_29 : decode cX9_aLine 29 = .ok (.aload_n 0, 1) := by decide +kernel
theorem dX9_aLine_30 : decode cX9_aLine 30 = .ok (.iconst 3, 1) := by decide +kernel
theorem dX9_aLine_31 : decode cX9_aLine 31 = .ok (.invokevirtual 214, 3) := by decide +kernel
theorem dX9_aLine_34 : decode cX9_aLine 34 = .ok (.ireturn, 1) := by decide +kernel
theorem dX9_aLine_35 : decode cX9_aLine 35 = .ok (.aload_n 0, 1) := by decide +kernel
theorem dX9_aLine_36 : decode cX9_aLine 36 = .ok (.iconst 0, 1) := by decide +kernel
theorem dX9_aLine_37 : decode cX9_aLine 37 = .ok (.putfield 223, 3) := by decide +kernel
theorem dX9_aLine_40 : decode cX9_aLine 40 = .ok (.aload_n 0, 1) := by decide +kernel
theorem dX9_aLine_41 : decode cX9_aLine 41 = .ok (.getfield 22, 3) := by decide +kernel
theorem dX9_aLine_44 : decode cX9_aLine 44 = .ok (.iconst 4, 1) := by decide +kernel
theorem dX9_aLine_45 : decode cX9_aLine 45 = .ok (.aload_n 0, 1) := by decide +kernel
theorem dX9_aLine_46 : decode cX9_aLine 46 = .ok (.getfield 255, 3) := by decide +kernel
theorem dX9_aLine_49 : decode cX9_aLine 49 = .ok (.imul, 1) := by decide +kernel
theorem dX9_aLine_50 : decode cX9_aLine 50 = .ok (.iconst 3, 1) := by decide +kernel
theorem dX9_aLine_51 : decode cX9_aLine 51 = .ok (.iadd, 1) := by decide +kernel
theorem dX9_aLine_52 : decode cX9_aLine 52 = .ok (.aload_n 0, 1) := by decide +kernel
theorem dX9_aLine_53 : decode cX9_aLine 53 = .ok (.getfield 193, 3) := by decide +kernel
theorem dX9_aLine_56 : decode cX9_aLine 56 = .ok (.iastore, 1) := by decide +kernel
theorem dX9_aLine_57 : decode cX9_aLine 57 = .ok (.aload_n 0, 1) := by decide +kernel
theorem dX9_aLine_58 : decode cX9_aLine 58 = .ok (.invokevirtual 217, 3) := by decide +kernel
theorem dX9_aLine_61 : decode cX9_aLine 61 = .ok (.aload_n 0, 1) := by decide +kernel
theorem dX9_aLine_62 : decode cX9_aLine 62 = .ok (.getfield 22, 3) := by decide +kernel
theorem dX9_aLine_65 : decode cX9_aLine 65 = .ok (.iconst 4, 1) := by decide +kernel
theorem dX9_aLine_66 : decode cX9_aLine 66 = .ok (.aload_n 0, 1) := by decide +kernel
theorem dX9_aLine_67 : decode cX9_aLine 67 = .ok (.getfield 255, 3) := by decide +kernel
theorem dX9_aLine_70 : decode cX9_aLine 70 = .ok (.imul, 1) := by decide +kernel
theorem dX9_aLine_71 : decode cX9_aLine 71 = .ok (.aload_n 0, 1) := by decide +kernel
theorem dX9_aLine_72 : decode cX9_aLine 72 = .ok (.getfield 220, 3) := by decide +kernel
theorem dX9_aLine_75 : decode cX9_aLine 75 = .ok (.iastore, 1) := by decide +kernel
theorem dX9_aLine_76 : decode cX9_aLine 76 = .ok (.aload_n 0, 1) := by decide +kernel
theorem dX9_aLine_77 : decode cX9_aLine 77 = .ok (.invokevirtual 252, 3) := by decide +kernel
theorem dX9_aLine_80 : decode cX9_aLine 80 = .ok (.ifCond .ne 5, 3) := by decide +kernel
theorem dX9_aLine_83 : decode cX9_aLine 83 = .ok (.iconst 0, 1) := by decide +kernel
theorem dX9_aLine_84 : decode cX9_aLine 84 = .ok (.ireturn, 1) := by decide +kernel
theorem dX9_aLine_85 : decode cX9_aLine 85 = .ok (.aload_n 0, 1) := by decide +kernel
theorem dX9_aLine_86 : decode cX9_aLine 86 = .ok (.getfield 22, 3) := by decide +kernel
theorem dX9_aLine_89 : decode cX9_aLine 89 = .ok (.iconst 4, 1) := by decide +kernel
theorem dX9_aLine_90 : decode cX9_aLine 90 = .ok (.aload_n 0, 1) := by decide +kernel
theorem dX9_aLine_91 : decode cX9_aLine 91 = .ok (.getfield 255, 3) := by decide +kernel
theorem dX9_aLine_94 : decode cX9_aLine 94 = .ok (.imul, 1) := by decide +kernel
theorem dX9_aLine_95 : decode cX9_aLine 95 = .ok (.iconst 1, 1) := by decide +kernel
theorem dX9_aLine_96 : decode cX9_aLine 96 = .ok (.iadd, 1) := by decide +kernel
theorem dX9_aLine_97 : decode cX9_aLine 97 = .ok (.aload_n 0, 1) := by decide +kernel
theorem dX9_aLine_98 : decode cX9_aLine 98 = .ok (.getfield 220, 3) := by decide +kernel
theorem dX9_aLine_101 : decode cX9_aLine 101 = .ok (.iastore, 1) := by decide +kernel
theorem dX9_aLine_102 : decode cX9_aLine 102 = .ok (.aload_n 0, 1) := by decide +kernel
theorem dX9_aLine_103 : decode cX9_aLine 103 = .ok (.getfield 193, 3) := by decide +kernel
theorem dX9_aLine_106 : decode cX9_aLine 106 = .ok (.iconst 3, 1) := by decide +kernel
theorem dX9_aLine_107 : decode cX9_aLine 107 = .ok (.if_icmp .ne 16, 3) := by decide +kernel
theorem dX9_aLine_110 : decode cX9_aLine 110 = .ok (.aload_n 0, 1) := by decide +kernel
theorem dX9_aLine_111 : decode cX9_aLine 111 = .ok (.invokevirtual 217, 3) := by decide +kernel
theorem dX9_aLine_114 : decode cX9_aLine 114 = .ok (.aload_n 0, 1) := by decide +kernel
theorem dX9_aLine_115 : decode cX9_aLine 115 = .ok (.invokevirtual 246, 3) := by decide +kernel
theorem dX9_aLine_118 : decode cX9_aLine 118 = .ok (.ifCond .ne 5, 3) := by decide +kernel
theorem dX9_aLine_121 : decode cX9_aLine 121 = .ok (.iconst 0, 1) := by decide +kernel
theorem dX9_aLine_122 : decode cX9_aLine 122 = .ok (.ireturn, 1) := by decide +kernel
theorem dX9_aLine_123 : decode cX9_aLine 123 = .ok (.aload_n 0, 1) := by decide +kernel
theorem dX9_aLine_124 : decode cX9_aLine 124 = .ok (.getfield 22, 3) := by decide +kernel
theorem dX9_aLine_127 : decode cX9_aLine 127 = .ok (.iconst 4, 1) := by decide +kernel
theorem dX9_aLine_128 : decode cX9_aLine 128 = .ok (.aload_n 0, 1) := by decide +kernel
theorem dX9_aLine_129 : decode cX9_aLine 129 = .ok (.getfield 255, 3) := by decide +kernel
theorem dX9_aLine_132 : decode cX9_aLine 132 = .ok (.imul, 1) := by decide +kernel
theorem dX9_aLine_133 : decode cX9_aLine 133 = .ok (.iconst 2, 1) := by decide +kernel
theorem dX9_aLine_134 : decode cX9_aLine 134 = .ok (.iadd, 1) := by decide +kernel
theorem dX9_aLine_135 : decode cX9_aLine 135 = .ok (.aload_n 0, 1) := by decide +kernel
theorem dX9_aLine_136 : decode cX9_aLine 136 = .ok (.getfield 220, 3) := by decide +kernel
theorem dX9_aLine_139 : decode cX9_aLine 139 = .ok (.iastore, 1) := by decide +kernel
theorem dX9_aLine_140 : decode cX9_aLine 140 = .ok (.aload_n 0, 1) := by decide +kernel
theorem dX9_aLine_141 : decode cX9_aLine 141 = .ok (.sipush 159, 3) := by decide +kernel
theorem dX9_aLine_144 : decode cX9_aLine 144 = .ok (.invokevirtual 249, 3) := by decide +kernel
theorem dX9_aLine_147 : decode cX9_aLine 147 = .ok (.ireturn, 1) := by decide +kernel
theorem dX9_readsLaw_0 : decode cX9_readsLaw 0 = .ok (.aload_n 0, 1) := by decide +kernel
theorem dX9_readsLaw_1 : decode cX9_readsLaw 1 = .ok (.iconst 0, 1) := by decide +kernel
theorem dX9_readsLaw_2 : decode cX9_readsLaw 2 = .ok (.putfield 255, 3) := by decide +kernel
theorem dX9_readsLaw_5 : decode cX9_readsLaw 5 = .ok (.aload_n 0, 1) := by decide +kernel
theorem dX9_readsLaw_6 : decode cX9_readsLaw 6 = .ok (.iconst 0, 1) := by decide +kernel
theorem dX9_readsLaw_7 : decode cX9_readsLaw 7 = .ok (.putfield 220, 3) := by decide +kernel
theorem dX9_readsLaw_10 : decode cX9_readsLaw 10 = .ok (.iconst 1, 1) := by decide +kernel
theorem dX9_readsLaw_11 : decode cX9_readsLaw 11 = .ok (.istore_n 1, 1) := by decide +kernel
theorem dX9_readsLaw_12 : decode cX9_readsLaw 12 = .ok (.iload_n 1, 1) := by decide +kernel
theorem dX9_readsLaw_13 : decode cX9_readsLaw 13 = .ok (.ifCond .eq 36, 3) := by decide +kernel
theorem dX9_readsLaw_16 : decode cX9_readsLaw 16 = .ok (.aload_n 0, 1) := by decide +kernel
theorem dX9_readsLaw_17 : decode cX9_readsLaw 17 = .ok (.getfield 193, 3) := by decide +kernel
theorem dX9_readsLaw_20 : decode cX9_readsLaw 20 = .ok (.ifCond .eq 29, 3) := by decide +kernel
theorem dX9_readsLaw_23 : decode cX9_readsLaw 23 = .ok (.aload_n 0, 1) := by decide +kernel
theorem dX9_readsLaw_24 : decode cX9_readsLaw 24 = .ok (.invokevirtual 258, 3) := by decide +kernel
theorem dX9_readsLaw_27 : decode cX9_readsLaw 27 = .ok (.istore_n 1, 1) := by decide +kernel
theorem dX9_readsLaw_28 : decode cX9_readsLaw 28 = .ok (.aload_n 0, 1) := by decide +kernel
theorem dX9_readsLaw_29 : decode cX9_readsLaw 29 = .ok (.dup, 1) := by decide +kernel
theorem dX9_readsLaw_30 : decode cX9_readsLaw 30 = .ok (.getfield 255, 3) := by decide +kernel
theorem dX9_readsLaw_33 : decode cX9_readsLaw 33 = .ok (.iload_n 1, 1) := by decide +kernel
theorem dX9_readsLaw_34 : decode cX9_readsLaw 34 = .ok (.ifCond .eq 7, 3) := by decide +kernel
theorem dX9_readsLaw_37 : decode cX9_readsLaw 37 = .ok (.iconst 1, 1) := by decide +kernel
theorem dX9_readsLaw_38 : decode cX9_readsLaw 38 = .ok (.goto 4, 3) := by decide +kernel
theorem dX9_readsLaw_41 : decode cX9_readsLaw 41 = .ok (.iconst 0, 1) := by decide +kernel
theorem dX9_readsLaw_42 : decode cX9_readsLaw 42 = .ok (.iadd, 1) := by decide +kernel
theorem dX9_readsLaw_43 : decode cX9_readsLaw 43 = .ok (.putfield 255, 3) := by decide +kernel
theorem dX9_readsLaw_46 : decode cX9_readsLaw 46 = .ok (.goto (-34), 3) := by decide +kernel
theorem dX9_readsLaw_49 : decode cX9_readsLaw 49 = .ok (.iload_n 1, 1) := by decide +kernel
theorem dX9_readsLaw_50 : decode cX9_readsLaw 50 = .ok (.ireturn, 1) := by decide +kernel
theorem dX9_number_0 : decode cX9_number 0 = .ok (.aload_n 0, 1) := by decide +kernel
theorem dX9_number_1 : decode cX9_number 1 = .ok (.getfield 193, 3) := by decide +kernel
theorem dX9_number_4 : decode cX9_number 4 = .ok (.iconst 2, 1) := by decide +kernel
theorem dX9_number_5 : decode cX9_number 5 = .ok (.if_icmp .eq 9, 3) := by decide +kernel
theorem dX9_number_8 : decode cX9_number 8 = .ok (.aload_n 0, 1) := by decide +kernel
theorem dX9_number_9 : decode cX9_number 9 = .ok (.iconst 1, 1) := by decide +kernel
theorem dX9_number_10 : decode cX9_number 10 = .ok (.invokevirtual 214, 3) := by decide +kernel
theorem dX9_number_13 : decode cX9_number 13 = .ok (.ireturn, 1) := by decide +kernel
theorem dX9_number_14 : decode cX9_number 14 = .ok (.aload_n 0, 1) := by decide +kernel
theorem dX9_number_15 : decode cX9_number 15 = .ok (.getfield 205, 3) := by decide +kernel
theorem dX9_number_18 : decode cX9_number 18 = .ok (.iload_n 2, 1) := by decide +kernel
theorem dX9_number_19 : decode cX9_number 19 = .ok (.iload_n 3, 1) := by decide +kernel
theorem dX9_number_20 : decode cX9_number 20 = .ok (.invokestatic 72, 3) := by decide +kernel
theorem dX9_number_23 : decode cX9_number 23 = .ok (.ifCond .ne 9, 3) := by decide +kernel
theorem dX9_number_26 : decode cX9_number 26 = .ok (.aload_n 0, 1) := by decide +kernel
theorem dX9_number_27 : decode cX9_number 27 = .ok (.iconst 2, 1) := by decide +kernel
theorem dX9_number_28 : decode cX9_number 28 = .ok (.invokevirtual 214, 3) := by decide +kernel
theorem dX9_number_31 : decode cX9_number 31 = .ok (.ireturn, 1) := by decide +kernel
theorem dX9_number_32 : decode cX9_number 32 = .ok (.aload_n 0, 1) := by decide +kernel
theorem dX9_number_33 : decode cX9_number 33 = .ok (.getfield 28, 3) := by decide +kernel
theorem dX9_number_36 : decode cX9_number 36 = .ok (.iload_n 1, 1) := by decide +kernel
theorem dX9_number_37 : decode cX9_number 37 = .ok (.aload_n 0, 1) := by decide +kernel
theorem dX9_number_38 : decode cX9_number 38 = .ok (.getfield 205, 3) := by decide +kernel
theorem dX9_number_41 : decode cX9_number 41 = .ok (.iastore, 1) := by decide +kernel
theorem dX9_number_42 : decode cX9_number 42 = .ok (.aload_n 0, 1) := by decide +kernel
theorem dX9_number_43 : decode cX9_number 43 = .ok (.invokevirtual 217, 3) := by decide +kernel
theorem dX9_number_46 : decode cX9_number 46 = .ok (.iconst 1, 1) := by decide +kernel
theorem dX9_number_47 : decode cX9_number 47 = .ok (.ireturn, 1) := by decide +kernel
theorem dX9_told_0 : decode cX9_told 0 = .ok (.aload_n 0, 1) := by decide +kernel
theorem dX9_told_1 : decode cX9_told 1 = .ok (.iload_n 2, 1) := by decide +kernel
theorem dX9_told_2 : decode cX9_told 2 = .ok (.invokevirtual 249, 3) := by decide +kernel
theorem dX9_told_5 : decode cX9_told 5 = .ok (.ifCond .eq 18, 3) := by decide +kernel
theorem dX9_told_8 : decode cX9_told 8 = .ok (.aload_n 0, 1) := by decide +kernel
theorem dX9_told_9 : decode cX9_told 9 = .ok (.iload_n 1, 1) := by decide +kernel
theorem dX9_told_10 : decode cX9_told 10 = .ok (.iload_n 3, 1) := by decide +kernel
theorem dX9_told_11 : decode cX9_told 11 = .ok (.iload 4, 2) := by decide +kernel
theorem dX9_told_13 : decode cX9_told 13 = .ok (.invokevirtual 261, 3) := by decide +kernel
theorem dX9_told_16 : decode cX9_told 16 = .ok (.ifCond .eq 7, 3) := by decide +kernel
theorem dX9_told_19 : decode cX9_told 19 = .ok (.iconst 1, 1) := by decide +kernel
theorem dX9_told_20 : decode cX9_told 20 = .ok (.goto 4, 3) := by decide +kernel
theorem dX9_told_23 : decode cX9_told 23 = .ok (.iconst 0, 1) := by decide +kernel
theorem dX9_told_24 : decode cX9_told 24 = .ok (.ireturn, 1) := by decide +kernel
theorem dX9_anHour_0 : decode cX9_anHour 0 = .ok (.iconst 4, 1) := by decide +kernel
theorem dX9_anHour_1 : decode cX9_anHour 1 = .ok (.aload_n 0, 1) := by decide +kernel
theorem dX9_anHour_2 : decode cX9_anHour 2 = .ok (.getfield 264, 3) := by decide +kernel
theorem dX9_anHour_5 : decode cX9_anHour 5 = .ok (.imul, 1) := by decide +kernel
theorem dX9_anHour_6 : decode cX9_anHour 6 = .ok (.istore_n 1, 1) := by decide +kernel
theorem dX9_anHour_7 : decode cX9_anHour 7 = .ok (.aload_n 0, 1) := by decide +kernel
theorem dX9_anHour_8 : decode cX9_anHour 8 = .ok (.iload_n 1, 1) := by decide +kernel
theorem dX9_anHour_9 : decode cX9_anHour 9 = .ok (.bipush 7, 2) := by decide +kernel
theorem dX9_anHour_11 : decode cX9_anHour 11 = .ok (.iconst 0, 1) := by decide +kernel
theorem dX9_anHour_12 : decode cX9_anHour 12 = .ok (.iconst 1, 1) := by decide +kernel
theorem dX9_anHour_13 : decode cX9_anHour 13 = .ok (.invokevirtual 267, 3) := by decide +kernel
theorem dX9_anHour_16 : decode cX9_anHour 16 = .ok (.ifCond .eq 33, 3) := by decide +kernel
theorem dX9_anHour_19 : decode cX9_anHour 19 = .ok (.aload_n 0, 1) := by decide +kernel
theorem dX9_anHour_20 : decode cX9_anHour 20 = .ok (.iload_n 1, 1) := by decide +kernel
theorem dX9_anHour_21 : decode cX9_anHour 21 = .ok (.iconst 1, 1) := by decide +kernel
theorem dX9_anHour_22 : decode cX9_anHour 22 = .ok (.iadd, 1) := by decide +kernel
theorem dX9_anHour_23 : decode cX9_anHour 23 = .ok (.bipush 8, 2) := by decide +kernel
theorem dX9_anHour_25 : decode cX9_anHour 25 = .ok (.iconst 0, 1) := by decide +kernel
theorem dX9_anHour_26 : decode cX9_anHour 26 = .ok (.bipush 23, 2) := by decide +kernel
theorem dX9_anHour_28 : decode cX9_anHour 28 = .ok (.invokevirtual 267, 3) := by decide +kernel
theorem dX9_anHour_31 : decode cX9_anHour 31 = .ok (.ifCond .eq 18, 3) := by decide +kernel
theorem dX9_anHour_34 : decode cX9_anHour 34 = .ok (.aload_n 0, 1) := by decide +kernel
theorem dX9_anHour_35 : decode cX9_anHour 35 = .ok (.iload_n 1, 1) := by decide +kernel
theorem dX9_anHour_36 : decode cX9_anHour 36 = .ok (.iconst 2, 1) := by decide +kernel
theorem dX9_anHour_37 : decode cX9_anHour 37 = .ok (.iadd, 1) := by decide +kernel
theorem dX9_anHour_38 : decode cX9_anHour 38 = .ok (.bipush 9, 2) := by decide +kernel
theorem dX9_anHour_40 : decode cX9_anHour 40 = .ok (.iconst 1, 1) := by decide +kernel
theorem dX9_anHour_41 : decode cX9_anHour 41 = .ok (.bipush 24, 2) := by decide +kernel
theorem dX9_anHour_43 : decode cX9_anHour 43 = .ok (.invokevirtual 267, 3) := by decide +kernel
theorem dX9_anHour_46 : decode cX9_anHour 46 = .ok (.ifCond .ne 5, 3) := by decide +kernel
theorem dX9_anHour_49 : decode cX9_anHour 49 = .ok (.iconst 0, 1) := by decide +kernel
theorem dX9_anHour_50 : decode cX9_anHour 50 = .ok (.ireturn, 1) := by decide +kernel
theorem dX9_anHour_51 : decode cX9_anHour 51 = .ok (.aload_n 0, 1) := by decide +kernel
theorem dX9_anHour_52 : decode cX9_anHour 52 = .ok (.getfield 193, 3) := by decide +kernel
theorem dX9_anHour_55 : decode cX9_anHour 55 = .ok (.bipush 30, 2) := by decide +kernel
theorem dX9_anHour_57 : decode cX9_anHour 57 = .ok (.bipush 33, 2) := by decide +kernel
theorem dX9_anHour_59 : decode cX9_anHour 59 = .ok (.invokestatic 72, 3) := by decide +kernel
theorem dX9_anHour_62 : decode cX9_anHour 62 = .ok (.ifCond .ne 9, 3) := by decide +kernel
theorem dX9_anHour_65 : decode cX9_anHour 65 = .ok (.aload_n 0, 1) := by decide +kernel
theorem dX9_anHour_66 : decode cX9_anHour 66 = .ok (.iconst 1, 1) := by decide +kernel
theorem dX9_anHour_67 : decode cX9_anHour 67 = .ok (.invokevirtual 214, 3) := by decide +kernel
theorem dX9_anHour_70 : decode cX9_anHour 70 = .ok (.ireturn, 1) := by decide +kernel
theorem dX9_anHour_71 : decode cX9_anHour 71 = .ok (.aload_n 0, 1) := by decide +kernel
theorem dX9_anHour_72 : decode cX9_anHour 72 = .ok (.getfield 28, 3) := by decide +kernel
theorem dX9_anHour_75 : decode cX9_anHour 75 = .ok (.iload_n 1, 1) := by decide +kernel
theorem dX9_anHour_76 : decode cX9_anHour 76 = .ok (.iconst 3, 1) := by decide +kernel
theorem dX9_anHour_77 : decode cX9_anHour 77 = .ok (.iadd, 1) := by decide +kernel
theorem dX9_anHour_78 : decode cX9_anHour 78 = .ok (.aload_n 0, 1) := by decide +kernel
theorem dX9_anHour_79 : decode cX9_anHour 79 = .ok (.getfield 193, 3) := by decide +kernel
theorem dX9_anHour_82 : decode cX9_anHour 82 = .ok (.bipush 30, 2) := by decide +kernel
theorem dX9_anHour_84 : decode cX9_anHour 84 = .ok (.isub, 1) := by decide +kernel
theorem dX9_anHour_85 : decode cX9_anHour 85 = .ok (.iastore, 1) := by decide +kernel
theorem dX9_anHour_86 : decode cX9_anHour 86 = .ok (.aload_n 0, 1) := by decide +kernel
theorem dX9_anHour_87 : decode cX9_anHour 87 = .ok (.invokevirtual 217, 3) := by decide +kernel
theorem dX9_anHour_90 : decode cX9_anHour 90 = .ok (.iconst 1, 1) := by decide +kernel
theorem dX9_anHour_91 : decode cX9_anHour 91 = .ok (.ireturn, 1) := by decide +kernel
theorem dX9_aSaying_0 : decode cX9_aSaying 0 = .ok (.iconst 5, 1) := by decide +kernel
theorem dX9_aSaying_1 : decode cX9_aSaying 1 = .ok (.aload_n 0, 1) := by decide +kernel
theorem dX9_aSaying_2 : decode cX9_aSaying 2 = .ok (.getfield 264, 3) := by decide +kernel
theorem dX9_aSaying_5 : decode cX9_aSaying 5 = .ok (.imul, 1) := by decide +kernel
theorem dX9_aSaying_6 : decode cX9_aSaying 6 = .ok (.istore_n 1, 1) := by decide +kernel
theorem dX9_aSaying_7 : decode cX9_aSaying 7 = .ok (.aload_n 0, 1) := by decide +kernel
theorem dX9_aSaying_8 : decode cX9_aSaying 8 = .ok (.iload_n 1, 1) := by decide +kernel
theorem dX9_aSaying_9 : decode cX9_aSaying 9 = .ok (.bipush 10, 2) := by decide +kernel
theorem dX9_aSaying_11 : decode cX9_aSaying 11 = .ok (.iconst 0, 1) := by decide +kernel
theorem dX9_aSaying_12 : decode cX9_aSaying 12 = .ok (.sipush 9999, 3) := by decide +kernel
theorem dX9_aSaying_15 : decode cX9_aSaying 15 = .ok (.invokevirtual 267, 3) := by decide +kernel
theorem dX9_aSaying_18 : decode cX9_aSaying 18 = .ok (.ifCond .eq 17, 3) := by decide +kernel
theorem dX9_aSaying_21 : decode cX9_aSaying 21 = .ok (.aload_n 0, 1) := by decide +kernel
theorem dX9_aSaying_22 : decode cX9_aSaying 22 = .ok (.iload_n 1, 1) := by decide +kernel
theorem dX9_aSaying_23 : decode cX9_aSaying 23 = .ok (.iconst 1, 1) := by decide +kernel
theorem dX9_aSaying_24 : decode cX9_aSaying 24 = .ok (.iadd, 1) := by decide +kernel
theorem dX9_aSaying_25 : decode cX9_aSaying 25 = .ok (.bipush 7, 2) := by decide +kernel
theorem dX9_aSaying_27 : decode cX9_aSaying 27 = .ok (.iconst 0, 1) := by decide +kernel
theorem dX9_aSaying_28 : decode cX9_aSaying 28 = .ok (.iconst 1, 1) := by decide +kernel
theorem dX9_aSaying_29 : decode cX9_aSaying 29 = .ok (.invokevirtual 267, 3) := by decide +kernel
theorem dX9_aSaying_32 : decode cX9_aSaying 32 = .ok (.ifCond .ne 5, 3) := by decide +kernel
theorem dX9_aSaying_35 : decode cX9_aSaying 35 = .ok (.iconst 0, 1) := by decide +kernel
theorem dX9_aSaying_36 : decode cX9_aSaying 36 = .ok (.ireturn, 1) := by decide +kernel
theorem dX9_aSaying_37 : decode cX9_aSaying 37 = .ok (.aload_n 0, 1) := by decide +kernel
theorem dX9_aSaying_38 : decode cX9_aSaying 38 = .ok (.getfield 28, 3) := by decide +kernel
theorem dX9_aSaying_41 : decode cX9_aSaying 41 = .ok (.iload_n 1, 1) := by decide +kernel
theorem dX9_aSaying_42 : decode cX9_aSaying 42 = .ok (.iconst 2, 1) := by decide +kernel
theorem dX9_aSaying_43 : decode cX9_aSaying 43 = .ok (.iadd, 1) := by decide +kernel
theorem dX9_aSaying_44 : decode cX9_aSaying 44 = .ok (.iconst 0, 1) := by decide +kernel
theorem dX9_aSaying_45 : decode cX9_aSaying 45 = .ok (.iastore, 1) := by decide +kernel
theorem dX9_aSaying_46 : decode cX9_aSaying 46 = .ok (.aload_n 0, 1) := by decide +kernel
theorem dX9_aSaying_47 : decode cX9_aSaying 47 = .ok (.getfield 28, 3) := by decide +kernel
theorem dX9_aSaying_50 : decode cX9_aSaying 50 = .ok (.iload_n 1, 1) := by decide +kernel
theorem dX9_aSaying_51 : decode cX9_aSaying 51 = .ok (.iconst 3, 1) := by decide +kernel
theorem dX9_aSaying_52 : decode cX9_aSaying 52 = .ok (.iadd, 1) := by decide +kernel
theorem dX9_aSaying_53 : decode cX9_aSaying 53 = .ok (.iconst 0, 1) := by decide +kernel
theorem dX9_aSaying_54 : decode cX9_aSaying 54 = .ok (.iastore, 1) := by decide +kernel
theorem dX9_aSaying_55 : decode cX9_aSaying 55 = .ok (.aload_n 0, 1) := by decide +kernel
theorem dX9_aSaying_56 : decode cX9_aSaying 56 = .ok (.getfield 28, 3) := by decide +kernel
theorem dX9_aSaying_59 : decode cX9_aSaying 59 = .ok (.iload_n 1, 1) := by decide +kernel
theorem dX9_aSaying_60 : decode cX9_aSaying 60 = .ok (.iconst 4, 1) := by decide +kernel
theorem dX9_aSaying_61 : decode cX9_aSaying 61 = .ok (.iadd, 1) := by decide +kernel
theorem dX9_aSaying_62 : decode cX9_aSaying 62 = .ok (.iconst 0, 1) := by decide +kernel
theorem dX9_aSaying_63 : decode cX9_aSaying 63 = .ok (.iastore, 1) := by decide +kernel
theorem dX9_aSaying_64 : decode cX9_aSaying 64 = .ok (.aload_n 0, 1) := by decide +kernel
theorem dX9_aSaying_65 : decode cX9_aSaying 65 = .ok (.getfield 193, 3) := by decide +kernel
theorem dX9_aSaying_68 : decode cX9_aSaying 68 = .ok (.bipush 14, 2) := by decide +kernel
theorem dX9_aSaying_70 : decode cX9_aSaying 70 = .ok (.if_icmp .ne 9, 3) := by decide +kernel
theorem dX9_aSaying_73 : decode cX9_aSaying 73 = .ok (.aload_n 0, 1) := by decide +kernel
theorem dX9_aSaying_74 : decode cX9_aSaying 74 = .ok (.invokevirtual 217, 3) := by decide +kernel
theorem dX9_aSaying_77 : decode cX9_aSaying 77 = .ok (.iconst 1, 1) := by decide +kernel
theorem dX9_aSaying_78 : decode cX9_aSaying 78 = .ok (.ireturn, 1) := by decide +kernel
theorem dX9_aSaying_79 : decode cX9_aSaying 79 = .ok (.aload_n 0, 1) := by decide +kernel
theorem dX9_aSaying_80 : decode cX9_aSaying 80 = .ok (.iload_n 1, 1) := by decide +kernel
theorem dX9_aSaying_81 : decode cX9_aSaying 81 = .ok (.iconst 2, 1) := by decide +kernel
theorem dX9_aSaying_82 : decode cX9_aSaying 82 = .ok (.iadd, 1) := by decide +kernel
theorem dX9_aSaying_83 : decode cX9_aSaying 83 = .ok (.bipush 11, 2) := by decide +kernel
theorem dX9_aSaying_85 : decode cX9_aSaying 85 = .ok (.iconst 1, 1) := by decide +kernel
theorem dX9_aSaying_86 : decode cX9_aSaying 86 = .ok (.bipush 99, 2) := by decide +kernel
theorem dX9_aSaying_88 : decode cX9_aSaying 88 = .ok (.invokevirtual 267, 3) := by decide +kernel
theorem dX9_aSaying_91 : decode cX9_aSaying 91 = .ok (.ifCond .eq 18, 3) := by decide +kernel
theorem dX9_aSaying_94 : decode cX9_aSaying 94 = .ok (.aload_n 0, 1) := by decide +kernel
theorem dX9_aSaying_95 : decode cX9_aSaying 95 = .ok (.iload_n 1, 1) := by decide +kernel
theorem dX9_aSaying_96 : decode cX9_aSaying 96 = .ok (.iconst 3, 1) := by decide +kernel
theorem dX9_aSaying_97 : decode cX9_aSaying 97 = .ok (.iadd, 1) := by decide +kernel
theorem dX9_aSaying_98 : decode cX9_aSaying 98 = .ok (.bipush 12, 2) := by decide +kernel
theorem dX9_aSaying_100 : decode cX9_aSaying 100 = .ok (.iconst 0, 1) := by decide +kernel
theorem dX9_aSaying_101 : decode cX9_aSaying 101 = .ok (.bipush 9, 2) := by decide +kernel
theorem dX9_aSaying_103 : decode cX9_aSaying 103 = .ok (.invokevirtual 267, 3) := by decide +kernel
theorem dX9_aSaying_106 : decode cX9_aSaying 106 = .ok (.ifCond .ne 5, 3) := by decide +kernel
theorem dX9_aSaying_109 : decode cX9_aSaying 109 = .ok (.iconst 0, 1) := by decide +kernel
theorem dX9_aSaying_110 : decode cX9_aSaying 110 = .ok (.ireturn, 1) := by decide +kernel
theorem dX9_aSaying_111 : decode cX9_aSaying 111 = .ok (.aload_n 0, 1) := by decide +kernel
theorem dX9_aSaying_112 : decode cX9_aSaying 112 = .ok (.getfield 193, 3) := by decide +kernel
theorem dX9_aSaying_115 : decode cX9_aSaying 115 = .ok (.bipush 13, 2) := by decide +kernel
theorem dX9_aSaying_117 : decode cX9_aSaying 117 = .ok (.if_icmp .eq 5, 3) := by decide +kernel
theorem dX9_aSaying_120 : decode cX9_aSaying 120 = .ok (.iconst 1, 1) := by decide +kernel
theorem dX9_aSaying_121 : decode cX9_aSaying 121 = .ok (.ireturn, 1) := by decide +kernel
theorem dX9_aSaying_122 : decode cX9_aSaying 122 = .ok (.aload_n 0, 1) := by decide +kernel
theorem dX9_aSaying_123 : decode cX9_aSaying 123 = .ok (.getfield 28, 3) := by decide +kernel
theorem dX9_aSaying_126 : decode cX9_aSaying 126 = .ok (.iload_n 1, 1) := by decide +kernel
theorem dX9_aSaying_127 : decode cX9_aSaying 127 = .ok (.iconst 4, 1) := by decide +kernel
theorem dX9_aSaying_128 : decode cX9_aSaying 128 = .ok (.iadd, 1) := by decide +kernel
theorem dX9_aSaying_129 : decode cX9_aSaying 129 = .ok (.iconst 1, 1) := by decide +kernel
theorem dX9_aSaying_130 : decode cX9_aSaying 130 = .ok (.iastore, 1) := by decide +kernel
theorem dX9_aSaying_131 : decode cX9_aSaying 131 = .ok (.aload_n 0, 1) := by decide +kernel
theorem dX9_aSaying_132 : decode cX9_aSaying 132 = .ok (.invokevirtual 217, 3) := by decide +kernel
theorem dX9_aSaying_135 : decode cX9_aSaying 135 = .ok (.iconst 1, 1) := by decide +kernel
theorem dX9_aSaying_136 : decode cX9_aSaying 136 = .ok (.ireturn, 1) := by decide +kernel
theorem dX9_aHabit_0 : decode cX9_aHabit 0 = .ok (.aload_n 0, 1) := by decide +kernel
theorem dX9_aHabit_1 : decode cX9_aHabit 1 = .ok (.bipush 15, 2) := by decide +kernel
theorem dX9_aHabit_3 : decode cX9_aHabit 3 = .ok (.invokevirtual 249, 3) := by decide +kernel
theorem dX9_aHabit_6 : decode cX9_aHabit 6 = .ok (.ifCond .eq 47, 3) := by decide +kernel
theorem dX9_aHabit_9 : decode cX9_aHabit 9 = .ok (.aload_n 0, 1) := by decide +kernel
theorem dX9_aHabit_10 : decode cX9_aHabit 10 = .ok (.iconst 2, 1) := by decide +kernel
theorem dX9_aHabit_11 : decode cX9_aHabit 11 = .ok (.aload_n 0, 1) := by decide +kernel
theorem dX9_aHabit_12 : decode cX9_aHabit 12 = .ok (.getfield 264, 3) := by decide +kernel
theorem dX9_aHabit_15 : decode cX9_aHabit 15 = .ok (.imul, 1) := by decide +kernel
theorem dX9_aHabit_16 : decode cX9_aHabit 16 = .ok (.bipush 16, 2) := by decide +kernel
theorem dX9_aHabit_18 : decode cX9_aHabit 18 = .ok (.iconst 1, 1) := by decide +kernel
theorem dX9_aHabit_19 : decode cX9_aHabit 19 = .ok (.sipush 999, 3) := by decide +kernel
theorem dX9_aHabit_22 : decode cX9_aHabit 22 = .ok (.invokevirtual 267, 3) := by decide +kernel
theorem dX9_aHabit_25 : decode cX9_aHabit 25 = .ok (.ifCond .eq 28, 3) := by decide +kernel
theorem dX9_aHabit_28 : decode cX9_aHabit 28 = .ok (.aload_n 0, 1) := by decide +kernel
theorem dX9_aHabit_29 : decode cX9_aHabit 29 = .ok (.iconst 2, 1) := by decide +kernel
theorem dX9_aHabit_30 : decode cX9_aHabit 30 = .ok (.aload_n 0, 1) := by decide +kernel
theorem dX9_aHabit_31 : decode cX9_aHabit 31 = .ok (.getfield 264, 3) := by decide +kernel
theorem dX9_aHabit_34 : decode cX9_aHabit 34 = .ok (.imul, 1) := by decide +kernel
theorem dX9_aHabit_35 : decode cX9_aHabit 35 = .ok (.iconst 1, 1) := by decide +kernel
theorem dX9_aHabit_36 : decode cX9_aHabit 36 = .ok (.iadd, 1) := by decide +kernel
theorem dX9_aHabit_37 : decode cX9_aHabit 37 = .ok (.bipush 17, 2) := by decide +kernel
theorem dX9_aHabit_39 : decode cX9_aHabit 39 = .ok (.iconst 1, 1) := by decide +kernel
theorem dX9_aHabit_40 : decode cX9_aHabit 40 = .ok (.sipush 999, 3) := by decide +kernel
theorem dX9_aHabit_43 : decode cX9_aHabit 43 = .ok (.invokevirtual 267, 3) := by decide +kernel
theorem dX9_aHabit_46 : decode cX9_aHabit 46 = .ok (.ifCond .eq 7, 3) := by decide +kernel
theorem dX9_aHabit_49 : decode cX9_aHabit 49 = .ok (.iconst 1, 1) := by decide +kernel
theorem dX9_aHabit_50 : decode cX9_aHabit 50 = .ok (.goto 4, 3) := by decide +kernel
theorem dX9_aHabit_53 : decode cX9_aHabit 53 = .ok (.iconst 0, 1) := by decide +kernel
theorem dX9_aHabit_54 : decode cX9_aHabit 54 = .ok (.ireturn, 1) := by decide +kernel
theorem dX9_aRow_0 : decode cX9_aRow 0 = .ok (.aload_n 0, 1) := by decide +kernel
theorem dX9_aRow_1 : decode cX9_aRow 1 = .ok (.getfield 173, 3) := by decide +kernel
theorem dX9_aRow_4 : decode cX9_aRow 4 = .ok (.iconst 1, 1) := by decide +kernel
theorem dX9_aRow_5 : decode cX9_aRow 5 = .ok (.if_icmp .ne 13, 3) := by decide +kernel
theorem dX9_aRow_8 : decode cX9_aRow 8 = .ok (.aload_n 0, 1) := by decide +kernel
theorem dX9_aRow_9 : decode cX9_aRow 9 = .ok (.invokevirtual 271, 3) := by decide +kernel
theorem dX9_aRow_12 : decode cX9_aRow 12 = .ok (.ifCond .eq 45, 3) := by decide +kernel
theorem dX9_aRow_15 : decode cX9_aRow 15 = .ok (.goto 28, 3) := by decide +kernel
theorem dX9_aRow_18 : decode cX9_aRow 18 = .ok (.aload_n 0, 1) := by decide +kernel
theorem dX9_aRow_19 : decode cX9_aRow 19 = .ok (.getfield 173, 3) := by decide +kernel
theorem dX9_aRow_22 : decode cX9_aRow 22 = .ok (.iconst 2, 1) := by decide +kernel
theorem dX9_aRow_23 : decode cX9_aRow 23 = .ok (.if_icmp .ne 13, 3) := by decide +kernel
theorem dX9_aRow_26 : decode cX9_aRow 26 = .ok (.aload_n 0, 1) := by decide +kernel
theorem dX9_aRow_27 : decode cX9_aRow 27 = .ok (.invokevirtual 274, 3) := by decide +kernel
theorem dX9_aRow_30 : decode cX9_aRow 30 = .ok (.ifCond .eq 27, 3) := by decide +kernel
theorem dX9_aRow_33 : decode cX9_aRow 33 = .ok (.goto 10, 3) := by decide +kernel
theorem dX9_aRow_36 : decode cX9_aRow 36 = .ok (.aload_n 0, 1) := by decide +kernel
theorem dX9_aRow_37 : decode cX9_aRow 37 = .ok (.invokevirtual 277, 3) := by decide +kernel
theorem dX9_aRow_40 : decode cX9_aRow 40 = .ok (.ifCond .eq 17, 3) := by decide +kernel
theorem dX9_aRow_43 : decode cX9_aRow 43 = .ok (.aload_n 0, 1) := by decide +kernel
theorem dX9_aRow_44 : decode cX9_aRow 44 = .ok (.sipush 159, 3) := by decide +kernel
theorem dX9_aRow_47 : decode cX9_aRow 47 = .ok (.invokevirtual 249, 3) := by decide +kernel
theorem dX9_aRow_50 : decode cX9_aRow 50 = .ok (.ifCond .eq 7, 3) := by decide +kernel
theorem dX9_aRow_53 : decode cX9_aRow 53 = .ok (.iconst 1, 1) := by decide +kernel
theorem dX9_aRow_54 : decode cX9_aRow 54 = .ok (.goto 4, 3) := by decide +kernel
theorem dX9_aRow_57 : decode cX9_aRow 57 = .ok (.iconst 0, 1) := by decide +kernel
theorem dX9_aRow_58 : decode cX9_aRow 58 = .ok (.ireturn, 1) := by decide +kernel
theorem dX9_readsRows_0 : decode cX9_readsRows 0 = .ok (.aload_n 0, 1) := by decide +kernel
theorem dX9_readsRows_1 : decode cX9_readsRows 1 = .ok (.iconst 0, 1) := by decide +kernel
theorem dX9_readsRows_2 : decode cX9_readsRows 2 = .ok (.putfield 264, 3) := by decide +kernel
theorem dX9_readsRows_5 : decode cX9_readsRows 5 = .ok (.aload_n 0, 1) := by decide +kernel
theorem dX9_readsRows_6 : decode cX9_readsRows 6 = .ok (.getfield 173, 3) := by decide +kernel
theorem dX9_readsRows_9 : decode cX9_readsRows 9 = .ok (.iconst 1, 1) := by decide +kernel
theorem dX9_readsRows_10 : decode cX9_readsRows 10 = .ok (.if_icmp .ne 8, 3) := by decide +kernel
theorem dX9_readsRows_13 : decode cX9_readsRows 13 = .ok (.bipush 7, 2) := by decide +kernel
theorem dX9_readsRows_15 : decode cX9_readsRows 15 = .ok (.goto 18, 3) := by decide +kernel
theorem dX9_readsRows_18 : decode cX9_readsRows 18 = .ok (.aload_n 0, 1) := by decide +kernel
theorem dX9_readsRows_19 : decode cX9_readsRows 19 = .ok (.getfield 173, 3) := by decide +kernel
theorem dX9_readsRows_22 : decode cX9_readsRows 22 = .ok (.iconst 2, 1) := by decide +kernel
theorem dX9_readsRows_23 : decode cX9_readsRows 23 = .ok (.if_icmp .ne 8, 3) := by decide +kernel
theorem dX9_readsRows_26 : decode cX9_readsRows 26 = .ok (.bipush 10, 2) := by decide +kernel
theorem dX9_readsRows_28 : decode cX9_readsRows 28 = .ok (.goto 5, 3) := by decide +kernel
theorem dX9_readsRows_31 : decode cX9_readsRows 31 = .ok (.bipush 15, 2) := by decide +kernel
theorem dX9_readsRows_33 : decode cX9_readsRows 33 = .ok (.istore_n 1, 1) := by decide +kernel
theorem dX9_readsRows_34 : decode cX9_readsRows 34 = .ok (.iconst 1, 1) := by decide +kernel
theorem dX9_readsRows_35 : decode cX9_readsRows 35 = .ok (.istore_n 2, 1) := by decide +kernel
theorem dX9_readsRows_36 : decode cX9_readsRows 36 = .ok (.iload_n 2, 1) := by decide +kernel
theorem dX9_readsRows_37 : decode cX9_readsRows 37 = .ok (.ifCond .eq 78, 3) := by decide +kernel
theorem dX9_readsRows_40 : decode cX9_readsRows 40 = .ok (.aload_n 0, 1) := by decide +kernel
theorem dX9_readsRows_41 : decode cX9_readsRows 41 = .ok (.getfield 193, 3) := by decide +kernel
theorem dX9_readsRows_44 : decode cX9_readsRows 44 = .ok (.ifCond .eq 71, 3) := by decide +kernel
theorem dX9_readsRows_47 : decode cX9_readsRows 47 = .ok (.aload_n 0, 1) := by decide +kernel
theorem dX9_readsRows_48 : decode cX9_readsRows 48 = .ok (.getfield 193, 3) := by decide +kernel
theorem dX9_readsRows_51 : decode cX9_readsRows 51 = .ok (.iload_n 1, 1) := by decide +kernel
theorem dX9_readsRows_52 : decode cX9_readsRows 52 = .ok (.if_icmp .eq 9, 3) := by decide +kernel
theorem dX9_readsRows_55 : decode cX9_readsRows 55 = .ok (.aload_n 0, 1) := by decide +kernel
theorem dX9_readsRows_56 : decode cX9_readsRows 56 = .ok (.iconst 1, 1) := by decide +kernel
theorem dX9_readsRows_57 : decode cX9_readsRows 57 = .ok (.invokevirtual 214, 3) := by decide +kernel
theorem dX9_readsRows_60 : decode cX9_readsRows 60 = .ok (.ireturn, 1) := by decide +kernel
theorem dX9_readsRows_61 : decode cX9_readsRows 61 = .ok (.aload_n 0, 1) := by decide +kernel
theorem dX9_readsRows_62 : decode cX9_readsRows 62 = .ok (.getfield 264, 3) := by decide +kernel
theorem dX9_readsRows_65 : decode cX9_readsRows 65 = .ok (.aload_n 0, 1) := by decide +kernel
theorem dX9_readsRows_66 : decode cX9_readsRows 66 = .ok (.getfield 173, 3) := by decide +kernel
theorem dX9_readsRows_69 : decode cX9_readsRows 69 = .ok (.iconst 3, 1) := by decide +kernel
theorem dX9_readsRows_70 : decode cX9_readsRows 70 = .ok (.if_icmp .ne 8, 3) := by decide +kernel
theorem dX9_readsRows_73 : decode cX9_readsRows 73 = .ok (.bipush 8, 2) := by decide +kernel
theorem dX9_readsRows_75 : decode cX9_readsRows 75 = .ok (.goto 5, 3) := by decide +kernel
theorem dX9_readsRows_78 : decode cX9_readsRows 78 = .ok (.bipush 16, 2) := by decide +kernel
theorem dX9_readsRows_80 : decode cX9_readsRows 80 = .ok (.if_icmp .ne 9, 3) := by decide +kernel
theorem dX9_readsRows_83 : decode cX9_readsRows 83 = .ok (.aload_n 0, 1) := by decide +kernel
theorem dX9_readsRows_84 : decode cX9_readsRows 84 = .ok (.iconst 3, 1) := by decide +kernel
theorem dX9_readsRows_85 : decode cX9_readsRows 85 = .ok (.invokevirtual 214, 3) := by decide +kernel
theorem dX9_readsRows_88 : decode cX9_readsRows 88 = .ok (.ireturn, 1) := by decide +kernel
theorem dX9_readsRows_89 : decode cX9_readsRows 89 = .ok (.aload_n 0, 1) := by decide +kernel
theorem dX9_readsRows_90 : decode cX9_readsRows 90 = .ok (.invokevirtual 280, 3) := by decide +kernel
theorem dX9_readsRows_93 : decode cX9_readsRows 93 = .ok (.istore_n 2, 1) := by decide +kernel
theorem dX9_readsRows_94 : decode cX9_readsRows 94 = .ok (.aload_n 0, 1) := by decide +kernel
theorem dX9_readsRows_95 : decode cX9_readsRows 95 = .ok (.dup, 1) := by decide +kernel
theorem dX9_readsRows_96 : decode cX9_readsRows 96 = .ok (.getfield 264, 3) := by decide +kernel
theorem dX9_readsRows_99 : decode cX9_readsRows 99 = .ok (.iload_n 2, 1) := by decide +kernel
theorem dX9_readsRows_100 : decode cX9_readsRows 100 = .ok (.ifCond .eq 7, 3) := by decide +kernel
theorem dX9_readsRows_103 : decode cX9_readsRows 103 = .ok (.iconst 1, 1) := by decide +kernel
theorem dX9_readsRows_104 : decode cX9_readsRows 104 = .ok (.goto 4, 3) := by decide +kernel
theorem dX9_readsRows_107 : decode cX9_readsRows 107 = .ok (.iconst 0, 1) := by decide +kernel
theorem dX9_readsRows_108 : decode cX9_readsRows 108 = .ok (.iadd, 1) := by decide +kernel
theorem dX9_readsRows_109 : decode cX9_readsRows 109 = .ok (.putfield 264, 3) := by decide +kernel
theorem dX9_readsRows_112 : decode cX9_readsRows 112 = .ok (.goto (-76), 3) := by decide +kernel
theorem dX9_readsRows_115 : decode cX9_readsRows 115 = .ok (.iload_n 2, 1) := by decide +kernel
theorem dX9_readsRows_116 : decode cX9_readsRows 116 = .ok (.ireturn, 1) := by decide +kernel
theorem dX9_putsLaw_0 : decode cX9_putsLaw 0 = .ok (.aload_n 0, 1) := by decide +kernel
theorem dX9_putsLaw_1 : decode cX9_putsLaw 1 = .ok (.getfield 7, 3) := by decide +kernel
theorem dX9_putsLaw_4 : decode cX9_putsLaw 4 = .ok (.sipush 550, 3) := by decide +kernel
theorem dX9_putsLaw_7 : decode cX9_putsLaw 7 = .ok (.aload_n 0, 1) := by decide +kernel
theorem dX9_putsLaw_8 : decode cX9_putsLaw 8 = .ok (.getfield 255, 3) := by decide +kernel
theorem dX9_putsLaw_11 : decode cX9_putsLaw 11 = .ok (.iastore, 1) := by decide +kernel
theorem dX9_putsLaw_12 : decode cX9_putsLaw 12 = .ok (.iconst 0, 1) := by decide +kernel
theorem dX9_putsLaw_13 : decode cX9_putsLaw 13 = .ok (.istore_n 1, 1) := by decide +kernel
theorem dX9_putsLaw_14 : decode cX9_putsLaw 14 = .ok (.iload_n 1, 1) := by decide +kernel
theorem dX9_putsLaw_15 : decode cX9_putsLaw 15 = .ok (.aload_n 0, 1) := by decide +kernel
theorem dX9_putsLaw_16 : decode cX9_putsLaw 16 = .ok (.getfield 255, 3) := by decide +kernel
theorem dX9_putsLaw_19 : decode cX9_putsLaw 19 = .ok (.if_icmp .ge 87, 3) := by decide +kernel
theorem dX9_putsLaw_22 : decode cX9_putsLaw 22 = .ok (.aload_n 0, 1) := by decide +kernel
theorem dX9_putsLaw_23 : decode cX9_putsLaw 23 = .ok (.getfield 7, 3) := by decide +kernel
theorem dX9_putsLaw_26 : decode cX9_putsLaw 26 = .ok (.sipush 1333, 3) := by decide +kernel
theorem dX9_putsLaw_29 : decode cX9_putsLaw 29 = .ok (.iload_n 1, 1) := by decide +kernel
theorem dX9_putsLaw_30 : decode cX9_putsLaw 30 = .ok (.iadd, 1) := by decide +kernel
theorem dX9_putsLaw_31 : decode cX9_putsLaw 31 = .ok (.aload_n 0, 1) := by decide +kernel
theorem dX9_putsLaw_32 : decode cX9_putsLaw 32 = .ok (.getfield 22, 3) := by decide +kernel
theorem dX9_putsLaw_35 : decode cX9_putsLaw 35 = .ok (.iconst 4, 1) := by decide +kernel
theorem dX9_putsLaw_36 : decode cX9_putsLaw 36 = .ok (.iload_n 1, 1) := by decide +kernel
theorem dX9_putsLaw_37 : decode cX9_putsLaw 37 = .ok (.imul, 1) := by decide +kernel
theorem dX9_putsLaw_38 : decode cX9_putsLaw 38 = .ok (.iaload, 1) := by decide +kernel
theorem dX9_putsLaw_39 : decode cX9_putsLaw 39 = .ok (.iastore, 1) := by decide +kernel
theorem dX9_putsLaw_40 : decode cX9_putsLaw 40 = .ok (.aload_n 0, 1) := by decide +kernel
theorem dX9_putsLaw_41 : decode cX9_putsLaw 41 = .ok (.getfield 7, 3) := by decide +kernel
theorem dX9_putsLaw_44 : decode cX9_putsLaw 44 = .ok (.sipush 1349, 3) := by decide +kernel
theorem dX9_putsLaw_47 : decode cX9_putsLaw 47 = .ok (.iload_n 1, 1) := by decide +kernel
theorem dX9_putsLaw_48 : decode cX9_putsLaw 48 = .ok (.iadd, 1) := by decide +kernel
theorem dX9_putsLaw_49 : decode cX9_putsLaw 49 = .ok (.aload_n 0, 1) := by decide +kernel
theorem dX9_putsLaw_50 : decode cX9_putsLaw 50 = .ok (.getfield 22, 3) := by decide +kernel
theorem dX9_putsLaw_53 : decode cX9_putsLaw 53 = .ok (.iconst 4, 1) := by decide +kernel
theorem dX9_putsLaw_54 : decode cX9_putsLaw 54 = .ok (.iload_n 1, 1) := by decide +kernel
theorem dX9_putsLaw_55 : decode cX9_putsLaw 55 = .ok (.imul, 1) := by decide +kernel
theorem dX9_putsLaw_56 : decode cX9_putsLaw 56 = .ok (.iconst 1, 1) := by decide +kernel
theorem dX9_putsLaw_57 : decode cX9_putsLaw 57 = .ok (.iadd, 1) := by decide +kernel
theorem dX9_putsLaw_58 : decode cX9_putsLaw 58 = .ok (.iaload, 1) := by decide +kernel
theorem dX9_putsLaw_59 : decode cX9_putsLaw 59 = .ok (.iastore, 1) := by decide +kernel
theorem dX9_putsLaw_60 : decode cX9_putsLaw 60 = .ok (.aload_n 0, 1) := by decide +kernel
theorem dX9_putsLaw_61 : decode cX9_putsLaw 61 = .ok (.getfield 7, 3) := by decide +kernel
theorem dX9_putsLaw_64 : decode cX9_putsLaw 64 = .ok (.sipush 1365, 3) := by decide +kernel
theorem dX9_putsLaw_67 : decode cX9_putsLaw 67 = .ok (.iload_n 1, 1) := by decide +kernel
theorem dX9_putsLaw_68 : decode cX9_putsLaw 68 = .ok (.iadd, 1) := by decide +kernel
theorem dX9_putsLaw_69 : decode cX9_putsLaw 69 = .ok (.aload_n 0, 1) := by decide +kernel
theorem dX9_putsLaw_70 : decode cX9_putsLaw 70 = .ok (.getfield 22, 3) := by decide +kernel
theorem dX9_putsLaw_73 : decode cX9_putsLaw 73 = .ok (.iconst 4, 1) := by decide +kernel
theorem dX9_putsLaw_74 : decode cX9_putsLaw 74 = .ok (.iload_n 1, 1) := by decide +kernel
theorem dX9_putsLaw_75 : decode cX9_putsLaw 75 = .ok (.imul, 1) := by decide +kernel
theorem dX9_putsLaw_76 : decode cX9_putsLaw 76 = .ok (.iconst 2, 1) := by decide +kernel
theorem dX9_putsLaw_77 : decode cX9_putsLaw 77 = .ok (.iadd, 1) := by decide +kernel
theorem dX9_putsLaw_78 : decode cX9_putsLaw 78 = .ok (.iaload, 1) := by decide +kernel
theorem dX9_putsLaw_79 : decode cX9_putsLaw 79 = .ok (.iastore, 1) := by decide +kernel
theorem dX9_putsLaw_80 : decode cX9_putsLaw 80 = .ok (.aload_n 0, 1) := by decide +kernel
theorem dX9_putsLaw_81 : decode cX9_putsLaw 81 = .ok (.getfield 7, 3) := by decide +kernel
theorem dX9_putsLaw_84 : decode cX9_putsLaw 84 = .ok (.sipush 1381, 3) := by decide +kernel
theorem dX9_putsLaw_87 : decode cX9_putsLaw 87 = .ok (.iload_n 1, 1) := by decide +kernel
theorem dX9_putsLaw_88 : decode cX9_putsLaw 88 = .ok (.iadd, 1) := by decide +kernel
theorem dX9_putsLaw_89 : decode cX9_putsLaw 89 = .ok (.aload_n 0, 1) := by decide +kernel
theorem dX9_putsLaw_90 : decode cX9_putsLaw 90 = .ok (.getfield 22, 3) := by decide +kernel
theorem dX9_putsLaw_93 : decode cX9_putsLaw 93 = .ok (.iconst 4, 1) := by decide +kernel
theorem dX9_putsLaw_94 : decode cX9_putsLaw 94 = .ok (.iload_n 1, 1) := by decide +kernel
theorem dX9_putsLaw_95 : decode cX9_putsLaw 95 = .ok (.imul, 1) := by decide +kernel
theorem dX9_putsLaw_96 : decode cX9_putsLaw 96 = .ok (.iconst 3, 1) := by decide +kernel
theorem dX9_putsLaw_97 : decode cX9_putsLaw 97 = .ok (.iadd, 1) := by decide +kernel
theorem dX9_putsLaw_98 : decode cX9_putsLaw 98 = .ok (.iaload, 1) := by decide +kernel
theorem dX9_putsLaw_99 : decode cX9_putsLaw 99 = .ok (.iastore, 1) := by decide +kernel
theorem dX9_putsLaw_100 : decode cX9_putsLaw 100 = .ok (.iinc 1 1, 3) := by decide +kernel
theorem dX9_putsLaw_103 : decode cX9_putsLaw 103 = .ok (.goto (-89), 3) := by decide +kernel
theorem dX9_putsLaw_106 : decode cX9_putsLaw 106 = .ok (.iconst 0, 1) := by decide +kernel
theorem dX9_putsLaw_107 : decode cX9_putsLaw 107 = .ok (.istore_n 1, 1) := by decide +kernel
theorem dX9_putsLaw_108 : decode cX9_putsLaw 108 = .ok (.iload_n 1, 1) := by decide +kernel
theorem dX9_putsLaw_109 : decode cX9_putsLaw 109 = .ok (.iconst 2, 1) := by decide +kernel
theorem dX9_putsLaw_110 : decode cX9_putsLaw 110 = .ok (.aload_n 0, 1) := by decide +kernel
theorem dX9_putsLaw_111 : decode cX9_putsLaw 111 = .ok (.getfield 220, 3) := by decide +kernel
theorem dX9_putsLaw_114 : decode cX9_putsLaw 114 = .ok (.imul, 1) := by decide +kernel
theorem dX9_putsLaw_115 : decode cX9_putsLaw 115 = .ok (.if_icmp .ge 25, 3) := by decide +kernel
theorem dX9_putsLaw_118 : decode cX9_putsLaw 118 = .ok (.aload_n 0, 1) := by decide +kernel
theorem dX9_putsLaw_119 : decode cX9_putsLaw 119 = .ok (.getfield 7, 3) := by decide +kernel
theorem dX9_putsLaw_122 : decode cX9_putsLaw 122 = .ok (.sipush 1397, 3) := by decide +kernel
theorem dX9_putsLaw_125 : decode cX9_putsLaw 125 = .ok (.iload_n 1, 1) := by decide +kernel
theorem dX9_putsLaw_126 : decode cX9_putsLaw 126 = .ok (.iadd, 1) := by decide +kernel
theorem dX9_putsLaw_127 : decode cX9_putsLaw 127 = .ok (.aload_n 0, 1) := by decide +kernel
theorem dX9_putsLaw_128 : decode cX9_putsLaw 128 = .ok (.getfield 25, 3) := by decide +kernel
theorem dX9_putsLaw_131 : decode cX9_putsLaw 131 = .ok (.iload_n 1, 1) := by decide +kernel
theorem dX9_putsLaw_132 : decode cX9_putsLaw 132 = .ok (.iaload, 1) := by decide +kernel
theorem dX9_putsLaw_133 : decode cX9_putsLaw 133 = .ok (.iastore, 1) := by decide +kernel
theorem dX9_putsLaw_134 : decode cX9_putsLaw 134 = .ok (.iinc 1 1, 3) := by decide +kernel
theorem dX9_putsLaw_137 : decode cX9_putsLaw 137 = .ok (.goto (-29), 3) := by decide +kernel
theorem dX9_putsLaw_140 : decode cX9_putsLaw 140 = .ok (.aload_n 0, 1) := by decide +kernel
theorem dX9_putsLaw_141 : decode cX9_putsLaw 141 = .ok (.getfield 255, 3) := by decide +kernel
theorem dX9_putsLaw_144 : decode cX9_putsLaw 144 = .ok (.ireturn, 1) := by decide +kernel
theorem dX9_puts_0 : decode cX9_puts 0 = .ok (.aload_n 0, 1) := by decide +kernel
theorem dX9_puts_1 : decode cX9_puts 1 = .ok (.getfield 7, 3) := by decide +kernel
theorem dX9_puts_4 : decode cX9_puts 4 = .ok (.iload_n 1, 1) := by decide +kernel
theorem dX9_puts_5 : decode cX9_puts 5 = .ok (.aload_n 0, 1) := by decide +kernel
theorem dX9_puts_6 : decode cX9_puts 6 = .ok (.getfield 264, 3) := by decide +kernel
theorem dX9_puts_9 : decode cX9_puts 9 = .ok (.iastore, 1) := by decide +kernel
theorem dX9_puts_10 : decode cX9_puts 10 = .ok (.iconst 0, 1) := by decide +kernel
theorem dX9_puts_11 : decode cX9_puts 11 = .ok (.istore 4, 2) := by decide +kernel
theorem dX9_puts_13 : decode cX9_puts 13 = .ok (.iload 4, 2) := by decide +kernel
theorem dX9_puts_15 : decode cX9_puts 15 = .ok (.iload_n 3, 1) := by decide +kernel
theorem dX9_puts_16 : decode cX9_puts 16 = .ok (.aload_n 0, 1) := by decide +kernel
theorem dX9_puts_17 : decode cX9_puts 17 = .ok (.getfield 264, 3) := by decide +kernel
theorem dX9_puts_20 : decode cX9_puts 20 = .ok (.imul, 1) := by decide +kernel
theorem dX9_puts_21 : decode cX9_puts 21 = .ok (.if_icmp .ge 25, 3) := by decide +kernel
theorem dX9_puts_24 : decode cX9_puts 24 = .ok (.aload_n 0, 1) := by decide +kernel
theorem dX9_puts_25 : decode cX9_puts 25 = .ok (.getfield 7, 3) := by decide +kernel
theorem dX9_puts_28 : decode cX9_puts 28 = .ok (.iload_n 2, 1) := by decide +kernel
theorem dX9_puts_29 : decode cX9_puts 29 = .ok (.iload 4, 2) := by decide +kernel
theorem dX9_puts_31 : decode cX9_puts 31 = .ok (.iadd, 1) := by decide +kernel
theorem dX9_puts_32 : decode cX9_puts 32 = .ok (.aload_n 0, 1) := by decide +kernel
theorem dX9_puts_33 : decode cX9_puts 33 = .ok (.getfield 28, 3) := by decide +kernel
theorem dX9_puts_36 : decode cX9_puts 36 = .ok (.iload 4, 2) := by decide +kernel
theorem dX9_puts_38 : decode cX9_puts 38 = .ok (.iaload, 1) := by decide +kernel
theorem dX9_puts_39 : decode cX9_puts 39 = .ok (.iastore, 1) := by decide +kernel
theorem dX9_puts_40 : decode cX9_puts 40 = .ok (.iinc 4 1, 3) := by decide +kernel
theorem dX9_puts_43 : decode cX9_puts 43 = .ok (.goto (-30), 3) := by decide +kernel
theorem dX9_puts_46 : decode cX9_puts 46 = .ok (.aload_n 0, 1) := by decide +kernel
theorem dX9_puts_47 : decode cX9_puts 47 = .ok (.getfield 264, 3) := by decide +kernel
theorem dX9_puts_50 : decode cX9_puts 50 = .ok (.ireturn, 1) := by decide +kernel
theorem dX9_putsText_0 : decode cX9_putsText 0 = .ok (.iload_n 1, 1) := by decide +kernel
theorem dX9_putsText_1 : decode cX9_putsText 1 = .ok (.ifCond .ne 8, 3) := by decide +kernel
theorem dX9_putsText_4 : decode cX9_putsText 4 = .ok (.aload_n 0, 1) := by decide +kernel
theorem dX9_putsText_5 : decode cX9_putsText 5 = .ok (.invokevirtual 283, 3) := by decide +kernel
theorem dX9_putsText_8 : decode cX9_putsText 8 = .ok (.ireturn, 1) := by decide +kernel
theorem dX9_putsText_9 : decode cX9_putsText 9 = .ok (.iload_n 1, 1) := by decide +kernel
theorem dX9_putsText_10 : decode cX9_putsText 10 = .ok (.iconst 3, 1) := by decide +kernel
theorem dX9_putsText_11 : decode cX9_putsText 11 = .ok (.if_icmp .ne 15, 3) := by decide +kernel
theorem dX9_putsText_14 : decode cX9_putsText 14 = .ok (.aload_n 0, 1) := by decide +kernel
theorem dX9_putsText_15 : decode cX9_putsText 15 = .ok (.sipush 553, 3) := by decide +kernel
theorem dX9_putsText_18 : decode cX9_putsText 18 = .ok (.sipush 699, 3) := by decide +kernel
theorem dX9_putsText_21 : decode cX9_putsText 21 = .ok (.iconst 2, 1) := by decide +kernel
theorem dX9_putsText_22 : decode cX9_putsText 22 = .ok (.invokevirtual 286, 3) := by decide +kernel
theorem dX9_putsText_25 : decode cX9_putsText 25 = .ok (.ireturn, 1) := by decide +kernel
theorem dX9_putsText_26 : decode cX9_putsText 26 = .ok (.aload_n 0, 1) := by decide +kernel
theorem dX9_putsText_27 : decode cX9_putsText 27 = .ok (.invokevirtual 86, 3) := by decide +kernel
theorem dX9_putsText_30 : decode cX9_putsText 30 = .ok (.iload_n 1, 1) := by decide +kernel
theorem dX9_putsText_31 : decode cX9_putsText 31 = .ok (.iconst 1, 1) := by decide +kernel
theorem dX9_putsText_32 : decode cX9_putsText 32 = .ok (.if_icmp .ne 17, 3) := by decide +kernel
theorem dX9_putsText_35 : decode cX9_putsText 35 = .ok (.aload_n 0, 1) := by decide +kernel
theorem dX9_putsText_36 : decode cX9_putsText 36 = .ok (.sipush 551, 3) := by decide +kernel
theorem dX9_putsText_39 : decode cX9_putsText 39 = .ok (.sipush 555, 3) := by decide +kernel
theorem dX9_putsText_42 : decode cX9_putsText 42 = .ok (.iconst 4, 1) := by decide +kernel
theorem dX9_putsText_43 : decode cX9_putsText 43 = .ok (.invokevirtual 286, 3) := by decide +kernel
theorem dX9_putsText_46 : decode cX9_putsText 46 = .ok (.goto 14, 3) := by decide +kernel
theorem dX9_putsText_49 : decode cX9_putsText 49 = .ok (.aload_n 0, 1) := by decide +kernel
theorem dX9_putsText_50 : decode cX9_putsText 50 = .ok (.sipush 552, 3) := by decide +kernel
theorem dX9_putsText_53 : decode cX9_putsText 53 = .ok (.sipush 619, 3) := by decide +kernel
theorem dX9_putsText_56 : decode cX9_putsText 56 = .ok (.iconst 5, 1) := by decide +kernel
theorem dX9_putsText_57 : decode cX9_putsText 57 = .ok (.invokevirtual 286, 3) := by decide +kernel
theorem dX9_putsText_60 : decode cX9_putsText 60 = .ok (.ireturn, 1) := by decide +kernel
theorem dX9_text_0 : decode cX9_text 0 = .ok (.aload_n 0, 1) := by decide +kernel
theorem dX9_text_1 : decode cX9_text 1 = .ok (.iconst 0, 1) := by decide +kernel
theorem dX9_text_2 : decode cX9_text 2 = .ok (.putfield 290, 3) := by decide +kernel
theorem dX9_text_5 : decode cX9_text 5 = .ok (.aload_n 0, 1) := by decide +kernel
theorem dX9_text_6 : decode cX9_text 6 = .ok (.iconst (-1), 1) := by decide +kernel
theorem dX9_text_7 : decode cX9_text 7 = .ok (.putfield 40, 3) := by decide +kernel
theorem dX9_text_10 : decode cX9_text 10 = .ok (.iload_n 1, 1) := by decide +kernel
theorem dX9_text_11 : decode cX9_text 11 = .ok (.iconst 0, 1) := by decide +kernel
theorem dX9_text_12 : decode cX9_text 12 = .ok (.iconst 3, 1) := by decide +kernel
theorem dX9_text_13 : decode cX9_text 13 = .ok (.invokestatic 72, 3) := by decide +kernel
theorem dX9_text_16 : decode cX9_text 16 = .ok (.ifCond .ne 10, 3) := by decide +kernel
theorem dX9_text_19 : decode cX9_text 19 = .ok (.aload_n 0, 1) := by decide +kernel
theorem dX9_text_20 : decode cX9_text 20 = .ok (.iconst 0, 1) := by decide +kernel
theorem dX9_text_21 : decode cX9_text 21 = .ok (.putfield 94, 3) := by decide +kernel
theorem dX9_text_24 : decode cX9_text 24 = .ok (.iconst (-1), 1) := by decide +kernel
theorem dX9_text_25 : decode cX9_text 25 = .ok (.ireturn, 1) := by decide +kernel
theorem dX9_text_26 : decode cX9_text 26 = .ok (.aload_n 0, 1) := by decide +kernel
theorem dX9_text_27 : decode cX9_text 27 = .ok (.iconst 0, 1) := by decide +kernel
theorem dX9_text_28 : decode cX9_text 28 = .ok (.putfield 208, 3) := by decide +kernel
theorem dX9_text_31 : decode cX9_text 31 = .ok (.aload_n 0, 1) := by decide +kernel
theorem dX9_text_32 : decode cX9_text 32 = .ok (.iconst 0, 1) := by decide +kernel
theorem dX9_text_33 : decode cX9_text 33 = .ok (.putfield 97, 3) := by decide +kernel
theorem dX9_text_36 : decode cX9_text 36 = .ok (.aload_n 0, 1) := by decide +kernel
theorem dX9_text_37 : decode cX9_text 37 = .ok (.iload_n 1, 1) := by decide +kernel
theorem dX9_text_38 : decode cX9_text 38 = .ok (.putfield 173, 3) := by decide +kernel
theorem dX9_text_41 : decode cX9_text 41 = .ok (.aload_n 0, 1) := by decide +kernel
theorem dX9_text_42 : decode cX9_text 42 = .ok (.invokevirtual 217, 3) := by decide +kernel
theorem dX9_text_45 : decode cX9_text 45 = .ok (.iload_n 1, 1) := by decide +kernel
theorem dX9_text_46 : decode cX9_text 46 = .ok (.ifCond .ne 10, 3) := by decide +kernel
theorem dX9_text_49 : decode cX9_text 49 = .ok (.aload_n 0, 1) := by decide +kernel
theorem dX9_text_50 : decode cX9_text 50 = .ok (.invokevirtual 293, 3) := by decide +kernel
theorem dX9_text_53 : decode cX9_text 53 = .ok (.goto 7, 3) := by decide +kernel
theorem dX9_text_56 : decode cX9_text 56 = .ok (.aload_n 0, 1) := by decide +kernel
theorem dX9_text_57 : decode cX9_text 57 = .ok (.invokevirtual 296, 3) := by decide +kernel
theorem dX9_text_60 : decode cX9_text 60 = .ok (.istore_n 2, 1) := by decide +kernel
theorem dX9_text_61 : decode cX9_text 61 = .ok (.aload_n 0, 1) := by decide +kernel
theorem dX9_text_62 : decode cX9_text 62 = .ok (.iconst 0, 1) := by decide +kernel
theorem dX9_text_63 : decode cX9_text 63 = .ok (.putfield 94, 3) := by decide +kernel
theorem dX9_text_66 : decode cX9_text 66 = .ok (.iload_n 2, 1) := by decide +kernel
theorem dX9_text_67 : decode cX9_text 67 = .ok (.ifCond .eq 9, 3) := by decide +kernel
theorem dX9_text_70 : decode cX9_text 70 = .ok (.aload_n 0, 1) := by decide +kernel
theorem dX9_text_71 : decode cX9_text 71 = .ok (.iload_n 1, 1) := by decide +kernel
theorem dX9_text_72 : decode cX9_text 72 = .ok (.invokevirtual 299, 3) := by decide +kernel
theorem dX9_text_75 : decode cX9_text 75 = .ok (.ireturn, 1) := by decide +kernel
theorem dX9_text_76 : decode cX9_text 76 = .ok (.aload_n 0, 1) := by decide +kernel
theorem dX9_text_77 : decode cX9_text 77 = .ok (.aload_n 0, 1) := by decide +kernel
theorem dX9_text_78 : decode cX9_text 78 = .ok (.getfield 208, 3) := by decide +kernel
theorem dX9_text_81 : decode cX9_text 81 = .ok (.putfield 290, 3) := by decide +kernel
theorem dX9_text_84 : decode cX9_text 84 = .ok (.aload_n 0, 1) := by decide +kernel
theorem dX9_text_85 : decode cX9_text 85 = .ok (.aload_n 0, 1) := by decide +kernel
theorem dX9_text_86 : decode cX9_text 86 = .ok (.getfield 211, 3) := by decide +kernel
theorem dX9_text_89 : decode cX9_text 89 = .ok (.putfield 40, 3) := by decide +kernel
theorem dX9_text_92 : decode cX9_text 92 = .ok (.iconst (-1), 1) := by decide +kernel
theorem dX9_text_93 : decode cX9_text 93 = .ok (.ireturn, 1) := by decide +kernel
theorem dX9_fault_0 : decode cX9_fault 0 = .ok (.iload_n 1, 1) := by decide +kernel
theorem dX9_fault_1 : decode cX9_fault 1 = .ok (.ifCond .ne 10, 3) := by decide +kernel
theorem dX9_fault_4 : decode cX9_fault 4 = .ok (.aload_n 0, 1) := by decide +kernel
theorem dX9_fault_5 : decode cX9_fault 5 = .ok (.getfield 290, 3) := by decide +kernel
theorem dX9_fault_8 : decode cX9_fault 8 = .ok (.goto 16, 3) := by decide +kernel
theorem dX9_fault_11 : decode cX9_fault 11 = .ok (.iload_n 1, 1) := by decide +kernel
theorem dX9_fault_12 : decode cX9_fault 12 = .ok (.iconst 1, 1) := by decide +kernel
theorem dX9_fault_13 : decode cX9_fault 13 = .ok (.if_icmp .ne 10, 3) := by decide +kernel
theorem dX9_fault_16 : decode cX9_fault 16 = .ok (.aload_n 0, 1) := by decide +kernel
theorem dX9_fault_17 : decode cX9_fault 17 = .ok (.getfield 40, 3) := by decide +kernel
theorem dX9_fault_20 : decode cX9_fault 20 = .ok (.goto 4, 3) := by decide +kernel
theorem dX9_fault_23 : decode cX9_fault 23 = .ok (.iconst (-1), 1) := by decide +kernel
theorem dX9_fault_24 : decode cX9_fault 24 = .ok (.ireturn, 1) := by decide +kernel
theorem dX9_both_0 : decode cX9_both 0 = .ok (.iload_n 0, 1) := by decide +kernel
theorem dX9_both_1 : decode cX9_both 1 = .ok (.tableswitch 100 23 31 #[51, 55, 59, 100, 63, 74, 85, 100, 96], 51) := by decide +kernel
theorem dX9_both_52 : decode cX9_both 52 = .ok (.iload_n 1, 1) := by decide +kernel
theorem dX9_both_53 : decode cX9_both 53 = .ok (.iload_n 2, 1) := by decide +kernel
theorem dX9_both_54 : decode cX9_both 54 = .ok (.iadd, 1) := by decide +kernel
theorem dX9_both_55 : decode cX9_both 55 = .ok (.ireturn, 1) := by decide +kernel
theorem dX9_both_56 : decode cX9_both 56 = .ok (.iload_n 1, 1) := by decide +kernel
theorem dX9_both_57 : decode cX9_both 57 = .ok (.iload_n 2, 1) := by decide +kernel
theorem dX9_both_58 : decode cX9_both 58 = .ok (.isub, 1) := by decide +kernel
theorem dX9_both_59 : decode cX9_both 59 = .ok (.ireturn, 1) := by decide +kernel
theorem dX9_both_60 : decode cX9_both 60 = .ok (.iload_n 1, 1) := by decide +kernel
theorem dX9_both_61 : decode cX9_both 61 = .ok (.iload_n 2, 1) := by decide +kernel
theorem dX9_both_62 : decode cX9_both 62 = .ok (.imul, 1) := by decide +kernel
theorem dX9_both_63 : decode cX9_both 63 = .ok (.ireturn, 1) := by decide +kernel
theorem dX9_both_64 : decode cX9_both 64 = .ok (.iload_n 1, 1) := by decide +kernel
theorem dX9_both_65 : decode cX9_both 65 = .ok (.iload_n 2, 1) := by decide +kernel
theorem dX9_both_66 : decode cX9_both 66 = .ok (.if_icmp .ge 7, 3) := by decide +kernel
theorem dX9_both_69 : decode cX9_both 69 = .ok (.iconst 1, 1) := by decide +kernel
theorem dX9_both_70 : decode cX9_both 70 = .ok (.goto 4, 3) := by decide +kernel
theorem dX9_both_73 : decode cX9_both 73 = .ok (.iconst 0, 1) := by decide +kernel
theorem dX9_both_74 : decode cX9_both 74 = .ok (.ireturn, 1) := by decide +kernel
theorem dX9_both_75 : decode cX9_both 75 = .ok (.iload_n 1, 1) := by decide +kernel
theorem dX9_both_76 : decode cX9_both 76 = .ok (.iload_n 2, 1) := by decide +kernel
theorem dX9_both_77 : decode cX9_both 77 = .ok (.if_icmp .ne 7, 3) := by decide +kernel
theorem dX9_both_80 : decode cX9_both 80 = .ok (.iconst 1, 1) := by decide +kernel
theorem dX9_both_81 : decode cX9_both 81 = .ok (.goto 4, 3) := by decide +kernel
theorem dX9_both_84 : decode cX9_both 84 = .ok (.iconst 0, 1) := by decide +kernel
theorem dX9_both_85 : decode cX9_both 85 = .ok (.ireturn, 1) := by decide +kernel
theorem dX9_both_86 : decode cX9_both 86 = .ok (.iload_n 1, 1) := by decide +kernel
theorem dX9_both_87 : decode cX9_both 87 = .ok (.iload_n 2, 1) := by decide +kernel
theorem dX9_both_88 : decode cX9_both 88 = .ok (.if_icmp .le 7, 3) := by decide +kernel
theorem dX9_both_91 : decode cX9_both 91 = .ok (.iconst 1, 1) := by decide +kernel
theorem dX9_both_92 : decode cX9_both 92 = .ok (.goto 4, 3) := by decide +kernel
theorem dX9_both_95 : decode cX9_both 95 = .ok (.iconst 0, 1) := by decide +kernel
theorem dX9_both_96 : decode cX9_both 96 = .ok (.ireturn, 1) := by decide +kernel
theorem dX9_both_97 : decode cX9_both 97 = .ok (.iload_n 1, 1) := by decide +kernel
theorem dX9_both_98 : decode cX9_both 98 = .ok (.iload_n 2, 1) := by decide +kernel
theorem dX9_both_99 : decode cX9_both 99 = .ok (.iand, 1) := by decide +kernel
theorem dX9_both_100 : decode cX9_both 100 = .ok (.ireturn, 1) := by decide +kernel
theorem dX9_both_101 : decode cX9_both 101 = .ok (.iload_n 1, 1) := by decide +kernel
theorem dX9_both_102 : decode cX9_both 102 = .ok (.iload_n 2, 1) := by decide +kernel
theorem dX9_both_103 : decode cX9_both 103 = .ok (.ior, 1) := by decide +kernel
theorem dX9_both_104 : decode cX9_both 104 = .ok (.ireturn, 1) := by decide +kernel
theorem dX9_comesTo_0 : decode cX9_comesTo 0 = .ok (.iconst 0, 1) := by decide +kernel
theorem dX9_comesTo_1 : decode cX9_comesTo 1 = .ok (.istore 4, 2) := by decide +kernel
theorem dX9_comesTo_3 : decode cX9_comesTo 3 = .ok (.iload_n 2, 1) := by decide +kernel
theorem dX9_comesTo_4 : decode cX9_comesTo 4 = .ok (.istore 5, 2) := by decide +kernel
theorem dX9_comesTo_6 : decode cX9_comesTo 6 = .ok (.iload 5, 2) := by decide +kernel
theorem dX9_comesTo_8 : decode cX9_comesTo 8 = .ok (.iload_n 3, 1) := by decide +kernel
theorem dX9_comesTo_9 : decode cX9_comesTo 9 = .ok (.if_icmp .ge 177, 3) := by decide +kernel
theorem dX9_comesTo_12 : decode cX9_comesTo 12 = .ok (.aload_n 0, 1) := by decide +kernel
theorem dX9_comesTo_13 : decode cX9_comesTo 13 = .ok (.getfield 7, 3) := by decide +kernel
theorem dX9_comesTo_16 : decode cX9_comesTo 16 = .ok (.sipush 1397, 3) := by decide +kernel
theorem dX9_comesTo_19 : decode cX9_comesTo 19 = .ok (.sipush 820, 3) := by decide +kernel
theorem dX9_comesTo_22 : decode cX9_comesTo 22 = .ok (.iload_n 1, 1) := by decide +kernel
theorem dX9_comesTo_23 : decode cX9_comesTo 23 = .ok (.imul, 1) := by decide +kernel
theorem dX9_comesTo_24 : decode cX9_comesTo 24 = .ok (.iadd, 1) := by decide +kernel
theorem dX9_comesTo_25 : decode cX9_comesTo 25 = .ok (.iconst 2, 1) := by decide +kernel
theorem dX9_comesTo_26 : decode cX9_comesTo 26 = .ok (.iload 5, 2) := by decide +kernel
theorem dX9_comesTo_28 : decode cX9_comesTo 28 = .ok (.imul, 1) := by decide +kernel
theorem dX9_comesTo_29 : decode cX9_comesTo 29 = .ok (.iadd, 1) := by decide +kernel
theorem dX9_comesTo_30 : decode cX9_comesTo 30 = .ok (.iaload, 1) := by decide +kernel
theorem dX9_comesTo_31 : decode cX9_comesTo 31 = .ok (.istore 6, 2) := by decide +kernel
theorem dX9_comesTo_33 : decode cX9_comesTo 33 = .ok (.aload_n 0, 1) := by decide +kernel
theorem dX9_comesTo_34 : decode cX9_comesTo 34 = .ok (.getfield 7, 3) := by decide +kernel
theorem dX9_comesTo_37 : decode cX9_comesTo 37 = .ok (.sipush 1397, 3) := by decide +kernel
theorem dX9_comesTo_40 : decode cX9_comesTo 40 = .ok (.sipush 820, 3) := by decide +kernel
theorem dX9_comesTo_43 : decode cX9_comesTo 43 = .ok (.iload_n 1, 1) := by decide +kernel
theorem dX9_comesTo_44 : decode cX9_comesTo 44 = .ok (.imul, 1) := by decide +kernel
theorem dX9_comesTo_45 : decode cX9_comesTo 45 = .ok (.iadd, 1) := by decide +kernel
theorem dX9_comesTo_46 : decode cX9_comesTo 46 = .ok (.iconst 2, 1) := by decide +kernel
theorem dX9_comesTo_47 : decode cX9_comesTo 47 = .ok (.iload 5, 2) := by decide +kernel
theorem dX9_comesTo_49 : decode cX9_comesTo 49 = .ok (.imul, 1) := by decide +kernel
theorem dX9_comesTo_50 : decode cX9_comesTo 50 = .ok (.iadd, 1) := by decide +kernel
theorem dX9_comesTo_51 : decode cX9_comesTo 51 = .ok (.iconst 1, 1) := by decide +kernel
theorem dX9_comesTo_52 : decode cX9_comesTo 52 = .ok (.iadd, 1) := by decide +kernel
theorem dX9_comesTo_53 : decode cX9_comesTo 53 = .ok (.iaload, 1) := by decide +kernel
theorem dX9_comesTo_54 : decode cX9_comesTo 54 = .ok (.istore 7, 2) := by decide +kernel
theorem dX9_comesTo_56 : decode cX9_comesTo 56 = .ok (.iload 6, 2) := by decide +kernel
theorem dX9_comesTo_58 : decode cX9_comesTo 58 = .ok (.bipush 23, 2) := by decide +kernel
theorem dX9_comesTo_60 : decode cX9_comesTo 60 = .ok (.if_icmp .ge 33, 3) := by decide +kernel
theorem dX9_comesTo_63 : decode cX9_comesTo 63 = .ok (.aload_n 0, 1) := by decide +kernel
theorem dX9_comesTo_64 : decode cX9_comesTo 64 = .ok (.getfield 34, 3) := by decide +kernel
theorem dX9_comesTo_67 : decode cX9_comesTo 67 = .ok (.iload 4, 2) := by decide +kernel
theorem dX9_comesTo_69 : decode cX9_comesTo 69 = .ok (.iload 6, 2) := by decide +kernel
theorem dX9_comesTo_71 : decode cX9_comesTo 71 = .ok (.ifCond .ne 8, 3) := by decide +kernel
theorem dX9_comesTo_74 : decode cX9_comesTo 74 = .ok (.iload 7, 2) := by decide +kernel
theorem dX9_comesTo_76 : decode cX9_comesTo 76 = .ok (.goto 10, 3) := by decide +kernel
theorem dX9_comesTo_79 : decode cX9_comesTo 79 = .ok (.aload_n 0, 1) := by decide +kernel
theorem dX9_comesTo_80 : decode cX9_comesTo 80 = .ok (.getfield 37, 3) := by decide +kernel
theorem dX9_comesTo_83 : decode cX9_comesTo 83 = .ok (.iload 6, 2) := by decide +kernel
theorem dX9_comesTo_85 : decode cX9_comesTo 85 = .ok (.iaload, 1) := by decide +kernel
theorem dX9_comesTo_86 : decode cX9_comesTo 86 = .ok (.iastore, 1) := by decide +kernel
theorem dX9_comesTo_87 : decode cX9_comesTo 87 = .ok (.iinc 4 1, 3) := by decide +kernel
theorem dX9_comesTo_90 : decode cX9_comesTo 90 = .ok (.goto 90, 3) := by decide +kernel
theorem dX9_comesTo_93 : decode cX9_comesTo 93 = .ok (.iload 6, 2) := by decide +kernel
theorem dX9_comesTo_95 : decode cX9_comesTo 95 = .ok (.bipush 26, 2) := by decide +kernel
theorem dX9_comesTo_97 : decode cX9_comesTo 97 = .ok (.if_icmp .ne 20, 3) := by decide +kernel
theorem dX9_comesTo_100 : decode cX9_comesTo 100 = .ok (.aload_n 0, 1) := by decide +kernel
theorem dX9_comesTo_101 : decode cX9_comesTo 101 = .ok (.getfield 34, 3) := by decide +kernel
theorem dX9_comesTo_104 : decode cX9_comesTo 104 = .ok (.iload 4, 2) := by decide +kernel
theorem dX9_comesTo_106 : decode cX9_comesTo 106 = .ok (.iconst 1, 1) := by decide +kernel
theorem dX9_comesTo_107 : decode cX9_comesTo 107 = .ok (.isub, 1) := by decide +kernel
theorem dX9_comesTo_108 : decode cX9_comesTo 108 = .ok (.dup2, 1) := by decide +kernel
theorem dX9_comesTo_109 : decode cX9_comesTo 109 = .ok (.iaload, 1) := by decide +kernel
theorem dX9_comesTo_110 : decode cX9_comesTo 110 = .ok (.iload 7, 2) := by decide +kernel
theorem dX9_comesTo_112 : decode cX9_comesTo 112 = .ok (.idiv, 1) := by decide +kernel
theorem dX9_comesTo_113 : decode cX9_comesTo 113 = .ok (.iastore, 1) := by decide +kernel
theorem dX9_comesTo_114 : decode cX9_comesTo 114 = .ok (.goto 66, 3) := by decide +kernel
theorem dX9_comesTo_117 : decode cX9_comesTo 117 = .ok (.iload 6, 2) := by decide +kernel
theorem dX9_comesTo_119 : decode cX9_comesTo 119 = .ok (.bipush 30, 2) := by decide +kernel
theorem dX9_comesTo_121 : decode cX9_comesTo 121 = .ok (.if_icmp .ne 26, 3) := by decide +kernel
theorem dX9_comesTo_124 : decode cX9_comesTo 124 = .ok (.aload_n 0, 1) := by decide +kernel
theorem dX9_comesTo_125 : decode cX9_comesTo 125 = .ok (.getfield 34, 3) := by decide +kernel
theorem dX9_comesTo_128 : decode cX9_comesTo 128 = .ok (.iload 4, 2) := by decide +kernel
theorem dX9_comesTo_130 : decode cX9_comesTo 130 = .ok (.iconst 1, 1) := by decide +kernel
theorem dX9_comesTo_131 : decode cX9_comesTo 131 = .ok (.isub, 1) := by decide +kernel
theorem dX9_comesTo_132 : decode cX9_comesTo 132 = .ok (.iconst 1, 1) := by decide +kernel
theorem dX9_comesTo_133 : decode cX9_comesTo 133 = .ok (.aload_n 0, 1) := by decide +kernel
theorem dX9_comesTo_134 : decode cX9_comesTo 134 = .ok (.getfield 34, 3) := by decide +kernel
theorem dX9_comesTo_137 : decode cX9_comesTo 137 = .ok (.iload 4, 2) := by decide +kernel
theorem dX9_comesTo_139 : decode cX9_comesTo 139 = .ok (.iconst 1, 1) := by decide +kernel
theorem dX9_comesTo_140 : decode cX9_comesTo 140 = .ok (.isub, 1) := by decide +kernel
theorem dX9_comesTo_141 : decode cX9_comesTo 141 = .ok (.iaload, 1) := by decide +kernel
theorem dX9_comesTo_142 : decode cX9_comesTo 142 = .ok (.isub, 1) := by decide +kernel
theorem dX9_comesTo_143 : decode cX9_comesTo 143 = .ok (.iastore, 1) := by decide +kernel
theorem dX9_comesTo_144 : decode cX9_comesTo 144 = .ok (.goto 36, 3) := by decide +kernel
theorem dX9_comesTo_147 : decode cX9_comesTo 147 = .ok (.iinc 4 (-1), 3) := by decide +kernel
theorem dX9_comesTo_150 : decode cX9_comesTo 150 = .ok (.aload_n 0, 1) := by decide +kernel
theorem dX9_comesTo_151 : decode cX9_comesTo 151 = .ok (.getfield 34, 3) := by decide +kernel
theorem dX9_comesTo_154 : decode cX9_comesTo 154 = .ok (.iload 4, 2) := by decide +kernel
theorem dX9_comesTo_156 : decode cX9_comesTo 156 = .ok (.iconst 1, 1) := by decide +kernel
theorem dX9_comesTo_157 : decode cX9_comesTo 157 = .ok (.isub, 1) := by decide +kernel
theorem dX9_comesTo_158 : decode cX9_comesTo 158 = .ok (.iload 6, 2) := by decide +kernel
theorem dX9_comesTo_160 : decode cX9_comesTo 160 = .ok (.aload_n 0, 1) := by decide +kernel
theorem dX9_comesTo_161 : decode cX9_comesTo 161 = .ok (.getfield 34, 3) := by decide +kernel
theorem dX9_comesTo_164 : decode cX9_comesTo 164 = .ok (.iload 4, 2) := by decide +kernel
theorem dX9_comesTo_166 : decode cX9_comesTo 166 = .ok (.iconst 1, 1) := by decide +kernel
theorem dX9_comesTo_167 : decode cX9_comesTo 167 = .ok (.isub, 1) := by decide +kernel
theorem dX9_comesTo_168 : decode cX9_comesTo 168 = .ok (.iaload, 1) := by decide +kernel
theorem dX9_comesTo_169 : decode cX9_comesTo 169 = .ok (.aload_n 0, 1) := by decide +kernel
theorem dX9_comesTo_170 : decode cX9_comesTo 170 = .ok (.getfield 34, 3) := by decide +kernel
theorem dX9_comesTo_173 : decode cX9_comesTo 173 = .ok (.iload 4, 2) := by decide +kernel
theorem dX9_comesTo_175 : decode cX9_comesTo 175 = .ok (.iaload, 1) := by decide +kernel
theorem dX9_comesTo_176 : decode cX9_comesTo 176 = .ok (.invokestatic 302, 3) := by decide +kernel
theorem dX9_comesTo_179 : decode cX9_comesTo 179 = .ok (.iastore, 1) := by decide +kernel
theorem dX9_comesTo_180 : decode cX9_comesTo 180 = .ok (.iinc 5 1, 3) := by decide +kernel
theorem dX9_comesTo_183 : decode cX9_comesTo 183 = .ok (.goto (-177), 3) := by decide +kernel
theorem dX9_comesTo_186 : decode cX9_comesTo 186 = .ok (.aload_n 0, 1) := by decide +kernel
theorem dX9_comesTo_187 : decode cX9_comesTo 187 = .ok (.getfield 34, 3) := by decide +kernel
theorem dX9_comesTo_190 : decode cX9_comesTo 190 = .ok (.iconst 0, 1) := by decide +kernel
theorem dX9_comesTo_191 : decode cX9_comesTo 191 = .ok (.iaload, 1) := by decide +kernel
theorem dX9_comesTo_192 : decode cX9_comesTo 192 = .ok (.ireturn, 1) := by decide +kernel
theorem dX9_isSo_0 : decode cX9_isSo 0 = .ok (.aload_n 0, 1) := by decide +kernel
theorem dX9_isSo_1 : decode cX9_isSo 1 = .ok (.getfield 7, 3) := by decide +kernel
theorem dX9_isSo_4 : decode cX9_isSo 4 = .ok (.sipush 1365, 3) := by decide +kernel
theorem dX9_isSo_7 : decode cX9_isSo 7 = .ok (.iload_n 1, 1) := by decide +kernel
theorem dX9_isSo_8 : decode cX9_isSo 8 = .ok (.iadd, 1) := by decide +kernel
theorem dX9_isSo_9 : decode cX9_isSo 9 = .ok (.iaload, 1) := by decide +kernel
theorem dX9_isSo_10 : decode cX9_isSo 10 = .ok (.aload_n 0, 1) := by decide +kernel
theorem dX9_isSo_11 : decode cX9_isSo 11 = .ok (.getfield 7, 3) := by decide +kernel
theorem dX9_isSo_14 : decode cX9_isSo 14 = .ok (.sipush 1349, 3) := by decide +kernel
theorem dX9_isSo_17 : decode cX9_isSo 17 = .ok (.iload_n 1, 1) := by decide +kernel
theorem dX9_isSo_18 : decode cX9_isSo 18 = .ok (.iadd, 1) := by decide +kernel
theorem dX9_isSo_19 : decode cX9_isSo 19 = .ok (.iaload, 1) := by decide +kernel
theorem dX9_isSo_20 : decode cX9_isSo 20 = .ok (.if_icmp .eq 32, 3) := by decide +kernel
theorem dX9_isSo_23 : decode cX9_isSo 23 = .ok (.aload_n 0, 1) := by decide +kernel
theorem dX9_isSo_24 : decode cX9_isSo 24 = .ok (.iconst 0, 1) := by decide +kernel
theorem dX9_isSo_25 : decode cX9_isSo 25 = .ok (.aload_n 0, 1) := by decide +kernel
theorem dX9_isSo_26 : decode cX9_isSo 26 = .ok (.getfield 7, 3) := by decide +kernel
theorem dX9_isSo_29 : decode cX9_isSo 29 = .ok (.sipush 1349, 3) := by decide +kernel
theorem dX9_isSo_32 : decode cX9_isSo 32 = .ok (.iload_n 1, 1) := by decide +kernel
theorem dX9_isSo_33 : decode cX9_isSo 33 = .ok (.iadd, 1) := by decide +kernel
theorem dX9_isSo_34 : decode cX9_isSo 34 = .ok (.iaload, 1) := by decide +kernel
theorem dX9_isSo_35 : decode cX9_isSo 35 = .ok (.aload_n 0, 1) := by decide +kernel
theorem dX9_isSo_36 : decode cX9_isSo 36 = .ok (.getfield 7, 3) := by decide +kernel
theorem dX9_isSo_39 : decode cX9_isSo 39 = .ok (.sipush 1365, 3) := by decide +kernel
theorem dX9_isSo_42 : decode cX9_isSo 42 = .ok (.iload_n 1, 1) := by decide +kernel
theorem dX9_isSo_43 : decode cX9_isSo 43 = .ok (.iadd, 1) := by decide +kernel
theorem dX9_isSo_44 : decode cX9_isSo 44 = .ok (.iaload, 1) := by decide +kernel
theorem dX9_isSo_45 : decode cX9_isSo 45 = .ok (.invokevirtual 305, 3) := by decide +kernel
theorem dX9_isSo_48 : decode cX9_isSo 48 = .ok (.iconst 1, 1) := by decide +kernel
theorem dX9_isSo_49 : decode cX9_isSo 49 = .ok (.if_icmp .ne 7, 3) := by decide +kernel
theorem dX9_isSo_52 : decode cX9_isSo 52 = .ok (.iconst 1, 1) := by decide +kernel
theorem dX9_isSo_53 : decode cX9_isSo 53 = .ok (.goto 4, 3) := by decide +kernel
theorem dX9_isSo_56 : decode cX9_isSo 56 = .ok (.iconst 0, 1) := by decide +kernel
theorem dX9_isSo_57 : decode cX9_isSo 57 = .ok (.ireturn, 1) := by decide +kernel
theorem dX9_says_0 : decode cX9_says 0 = .ok (.iconst 0, 1) := by decide +kernel
theorem dX9_says_1 : decode cX9_says 1 = .ok (.istore 5, 2) := by decide +kernel
theorem dX9_says_3 : decode cX9_says 3 = .ok (.iload 5, 2) := by decide +kernel
theorem dX9_says_5 : decode cX9_says 5 = .ok (.aload_n 0, 1) := by decide +kernel
theorem dX9_says_6 : decode cX9_says 6 = .ok (.getfield 7, 3) := by decide +kernel
theorem dX9_says_9 : decode cX9_says 9 = .ok (.sipush 550, 3) := by decide +kernel
theorem dX9_says_12 : decode cX9_says 12 = .ok (.iaload, 1) := by decide +kernel
theorem dX9_says_13 : decode cX9_says 13 = .ok (.if_icmp .ge 67, 3) := by decide +kernel
theorem dX9_says_16 : decode cX9_says 16 = .ok (.aload_n 0, 1) := by decide +kernel
theorem dX9_says_17 : decode cX9_says 17 = .ok (.getfield 7, 3) := by decide +kernel
theorem dX9_says_20 : decode cX9_says 20 = .ok (.sipush 1381, 3) := by decide +kernel
theorem dX9_says_23 : decode cX9_says 23 = .ok (.iload 5, 2) := by decide +kernel
theorem dX9_says_25 : decode cX9_says 25 = .ok (.iadd, 1) := by decide +kernel
theorem dX9_says_26 : decode cX9_says 26 = .ok (.iaload, 1) := by decide +kernel
theorem dX9_says_27 : decode cX9_says 27 = .ok (.iload_n 1, 1) := by decide +kernel
theorem dX9_says_28 : decode cX9_says 28 = .ok (.if_icmp .ne 46, 3) := by decide +kernel
theorem dX9_says_31 : decode cX9_says 31 = .ok (.aload_n 0, 1) := by decide +kernel
theorem dX9_says_32 : decode cX9_says 32 = .ok (.iload 5, 2) := by decide +kernel
theorem dX9_says_34 : decode cX9_says 34 = .ok (.invokevirtual 308, 3) := by decide +kernel
theorem dX9_says_37 : decode cX9_says 37 = .ok (.ifCond .eq 37, 3) := by decide +kernel
theorem dX9_says_40 : decode cX9_says 40 = .ok (.aload_n 0, 1) := by decide +kernel
theorem dX9_says_41 : decode cX9_says 41 = .ok (.iconst 0, 1) := by decide +kernel
theorem dX9_says_42 : decode cX9_says 42 = .ok (.aload_n 0, 1) := by decide +kernel
theorem dX9_says_43 : decode cX9_says 43 = .ok (.getfield 7, 3) := by decide +kernel
theorem dX9_says_46 : decode cX9_says 46 = .ok (.sipush 1333, 3) := by decide +kernel
theorem dX9_says_49 : decode cX9_says 49 = .ok (.iload 5, 2) := by decide +kernel
theorem dX9_says_51 : decode cX9_says 51 = .ok (.iadd, 1) := by decide +kernel
theorem dX9_says_52 : decode cX9_says 52 = .ok (.iaload, 1) := by decide +kernel
theorem dX9_says_53 : decode cX9_says 53 = .ok (.aload_n 0, 1) := by decide +kernel
theorem dX9_says_54 : decode cX9_says 54 = .ok (.getfield 7, 3) := by decide +kernel
theorem dX9_says_57 : decode cX9_says 57 = .ok (.sipush 1349, 3) := by decide +kernel
theorem dX9_says_60 : decode cX9_says 60 = .ok (.iload 5, 2) := by decide +kernel
theorem dX9_says_62 : decode cX9_says 62 = .ok (.iadd, 1) := by decide +kernel
theorem dX9_says_63 : decode cX9_says 63 = .ok (.iaload, 1) := by decide +kernel
theorem dX9_says_64 : decode cX9_says 64 = .ok (.invokevirtual 305, 3) := by decide +kernel
theorem dX9_says_67 : decode cX9_says 67 = .ok (.iload_n 3, 1) := by decide +kernel
theorem dX9_says_68 : decode cX9_says 68 = .ok (.iload 4, 2) := by decide +kernel
theorem dX9_says_70 : decode cX9_says 70 = .ok (.invokestatic 311, 3) := by decide +kernel
theorem dX9_says_73 : decode cX9_says 73 = .ok (.ireturn, 1) := by decide +kernel
theorem dX9_says_74 : decode cX9_says 74 = .ok (.iinc 5 1, 3) := by decide +kernel
theorem dX9_says_77 : decode cX9_says 77 = .ok (.goto (-74), 3) := by decide +kernel
theorem dX9_says_80 : decode cX9_says 80 = .ok (.iload_n 2, 1) := by decide +kernel
theorem dX9_says_81 : decode cX9_says 81 = .ok (.iload_n 3, 1) := by decide +kernel
theorem dX9_says_82 : decode cX9_says 82 = .ok (.iload 4, 2) := by decide +kernel
theorem dX9_says_84 : decode cX9_says 84 = .ok (.invokestatic 311, 3) := by decide +kernel
theorem dX9_says_87 : decode cX9_says 87 = .ok (.ireturn, 1) := by decide +kernel
theorem dX9_isIn0_0 : decode cX9_isIn0 0 = .ok (.iconst 0, 1) := by decide +kernel
theorem dX9_isIn0_1 : decode cX9_isIn0 1 = .ok (.istore_n 3, 1) := by decide +kernel
theorem dX9_isIn0_2 : decode cX9_isIn0 2 = .ok (.iload_n 3, 1) := by decide +kernel
theorem dX9_isIn0_3 : decode cX9_isIn0 3 = .ok (.aload_n 0, 1) := by decide +kernel
theorem dX9_isIn0_4 : decode cX9_isIn0 4 = .ok (.getfield 7, 3) := by decide +kernel
theorem dX9_isIn0_7 : decode cX9_isIn0 7 = .ok (.sipush 551, 3) := by decide +kernel
theorem dX9_isIn0_10 : decode cX9_isIn0 10 = .ok (.iaload, 1) := by decide +kernel
theorem dX9_isIn0_11 : decode cX9_isIn0 11 = .ok (.if_icmp .ge 68, 3) := by decide +kernel
theorem dX9_isIn0_14 : decode cX9_isIn0 14 = .ok (.sipush 555, 3) := by decide +kernel
theorem dX9_isIn0_17 : decode cX9_isIn0 17 = .ok (.iconst 4, 1) := by decide +kernel
theorem dX9_isIn0_18 : decode cX9_isIn0 18 = .ok (.iload_n 3, 1) := by decide +kernel
theorem dX9_isIn0_19 : decode cX9_isIn0 19 = .ok (.imul, 1) := by decide +kernel
theorem dX9_isIn0_20 : decode cX9_isIn0 20 = .ok (.iadd, 1) := by decide +kernel
theorem dX9_isIn0_21 : decode cX9_isIn0 21 = .ok (.istore 4, 2) := by decide +kernel
theorem dX9_isIn0_23 : decode cX9_isIn0 23 = .ok (.aload_n 0, 1) := by decide +kernel
theorem dX9_isIn0_24 : decode cX9_isIn0 24 = .ok (.getfield 7, 3) := by decide +kernel
theorem dX9_isIn0_27 : decode cX9_isIn0 27 = .ok (.iload 4, 2) := by decide +kernel
theorem dX9_isIn0_29 : decode cX9_isIn0 29 = .ok (.iaload, 1) := by decide +kernel
theorem dX9_isIn0_30 : decode cX9_isIn0 30 = .ok (.iload_n 1, 1) := by decide +kernel
theorem dX9_isIn0_31 : decode cX9_isIn0 31 = .ok (.if_icmp .ne 42, 3) := by decide +kernel
theorem dX9_isIn0_34 : decode cX9_isIn0 34 = .ok (.iload_n 2, 1) := by decide +kernel
theorem dX9_isIn0_35 : decode cX9_isIn0 35 = .ok (.aload_n 0, 1) := by decide +kernel
theorem dX9_isIn0_36 : decode cX9_isIn0 36 = .ok (.getfield 7, 3) := by decide +kernel
theorem dX9_isIn0_39 : decode cX9_isIn0 39 = .ok (.iload 4, 2) := by decide +kernel
theorem dX9_isIn0_41 : decode cX9_isIn0 41 = .ok (.iconst 1, 1) := by decide +kernel
theorem dX9_isIn0_42 : decode cX9_isIn0 42 = .ok (.iadd, 1) := by decide +kernel
theorem dX9_isIn0_43 : decode cX9_isIn0 43 = .ok (.iaload, 1) := by decide +kernel
theorem dX9_isIn0_44 : decode cX9_isIn0 44 = .ok (.isub, 1) := by decide +kernel
theorem dX9_isIn0_45 : decode cX9_isIn0 45 = .ok (.bipush 24, 2) := by decide +kernel
theorem dX9_isIn0_47 : decode cX9_isIn0 47 = .ok (.iadd, 1) := by decide +kernel
theorem dX9_isIn0_48 : decode cX9_isIn0 48 = .ok (.bipush 24, 2) := by decide +kernel
theorem dX9_isIn0_50 : decode cX9_isIn0 50 = .ok (.irem, 1) := by decide +kernel
theorem dX9_isIn0_51 : decode cX9_isIn0 51 = .ok (.aload_n 0, 1) := by decide +kernel
theorem dX9_isIn0_52 : decode cX9_isIn0 52 = .ok (.getfield 7, 3) := by decide +kernel
theorem dX9_isIn0_55 : decode cX9_isIn0 55 = .ok (.iload 4, 2) := by decide +kernel
theorem dX9_isIn0_57 : decode cX9_isIn0 57 = .ok (.iconst 2, 1) := by decide +kernel
theorem dX9_isIn0_58 : decode cX9_isIn0 58 = .ok (.iadd, 1) := by decide +kernel
theorem dX9_isIn0_59 : decode cX9_isIn0 59 = .ok (.iaload, 1) := by decide +kernel
theorem dX9_isIn0_60 : decode cX9_isIn0 60 = .ok (.if_icmp .ge 13, 3) := by decide +kernel
theorem dX9_isIn0_63 : decode cX9_isIn0 63 = .ok (.aload_n 0, 1) := by decide +kernel
theorem dX9_isIn0_64 : decode cX9_isIn0 64 = .ok (.getfield 7, 3) := by decide +kernel
theorem dX9_isIn0_67 : decode cX9_isIn0 67 = .ok (.iload 4, 2) := by decide +kernel
theorem dX9_isIn0_69 : decode cX9_isIn0 69 = .ok (.iconst 3, 1) := by decide +kernel
theorem dX9_isIn0_70 : decode cX9_isIn0 70 = .ok (.iadd, 1) := by decide +kernel
theorem dX9_isIn0_71 : decode cX9_isIn0 71 = .ok (.iaload, 1) := by decide +kernel
theorem dX9_isIn0_72 : decode cX9_isIn0 72 = .ok (.ireturn, 1) := by decide +kernel
theorem dX9_isIn0_73 : decode cX9_isIn0 73 = .ok (.iinc 3 1, 3) := by decide +kernel
theorem dX9_isIn0_76 : decode cX9_isIn0 76 = .ok (.goto (-74), 3) := by decide +kernel
theorem dX9_isIn0_79 : decode cX9_isIn0 79 = .ok (.iconst 0, 1) := by decide +kernel
theorem dX9_isIn0_80 : decode cX9_isIn0 80 = .ok (.ireturn, 1) := by decide +kernel
theorem dX9_canRead_0 : decode cX9_canRead 0 = .ok (.aload_n 0, 1) := by decide +kernel
theorem dX9_canRead_1 : decode cX9_canRead 1 = .ok (.iload_n 1, 1) := by decide +kernel
theorem dX9_canRead_2 : decode cX9_canRead 2 = .ok (.iload_n 2, 1) := by decide +kernel
theorem dX9_canRead_3 : decode cX9_canRead 3 = .ok (.invokevirtual 314, 3) := by decide +kernel
theorem dX9_canRead_6 : decode cX9_canRead 6 = .ok (.iconst 2, 1) := by decide +kernel
theorem dX9_canRead_7 : decode cX9_canRead 7 = .ok (.if_icmp .ge 7, 3) := by decide +kernel
theorem dX9_canRead_10 : decode cX9_canRead 10 = .ok (.iconst 1, 1) := by decide +kernel
theorem dX9_canRead_11 : decode cX9_canRead 11 = .ok (.goto 4, 3) := by decide +kernel
theorem dX9_canRead_14 : decode cX9_canRead 14 = .ok (.iconst 0, 1) := by decide +kernel
theorem dX9_canRead_15 : decode cX9_canRead 15 = .ok (.ireturn, 1) := by decide +kernel
theorem dX9_lays_0 : decode cX9_lays 0 = .ok (.aload_n 0, 1) := by decide +kernel
theorem dX9_lays_1 : decode cX9_lays 1 = .ok (.getfield 37, 3) := by decide +kernel
theorem dX9_lays_4 : decode cX9_lays 4 = .ok (.iconst 1, 1) := by decide +kernel
theorem dX9_lays_5 : decode cX9_lays 5 = .ok (.iload_n 1, 1) := by decide +kernel
theorem dX9_lays_6 : decode cX9_lays 6 = .ok (.iastore, 1) := by decide +kernel
theorem dX9_lays_7 : decode cX9_lays 7 = .ok (.aload_n 0, 1) := by decide +kernel
theorem dX9_lays_8 : decode cX9_lays 8 = .ok (.getfield 37, 3) := by decide +kernel
theorem dX9_lays_11 : decode cX9_lays 11 = .ok (.iconst 2, 1) := by decide +kernel
theorem dX9_lays_12 : decode cX9_lays 12 = .ok (.aload_n 0, 1) := by decide +kernel
theorem dX9_lays_13 : decode cX9_lays 13 = .ok (.getfield 7, 3) := by decide +kernel
theorem dX9_lays_16 : decode cX9_lays 16 = .ok (.iconst 4, 1) := by decide +kernel
theorem dX9_lays_17 : decode cX9_lays 17 = .ok (.iload_n 1, 1) := by decide +kernel
theorem dX9_lays_18 : decode cX9_lays 18 = .ok (.iadd, 1) := by decide +kernel
theorem dX9_lays_19 : decode cX9_lays 19 = .ok (.iaload, 1) := by decide +kernel
theorem dX9_lays_20 : decode cX9_lays 20 = .ok (.iastore, 1) := by decide +kernel
theorem dX9_lays_21 : decode cX9_lays 21 = .ok (.aload_n 0, 1) := by decide +kernel
theorem dX9_lays_22 : decode cX9_lays 22 = .ok (.getfield 37, 3) := by decide +kernel
theorem dX9_lays_25 : decode cX9_lays 25 = .ok (.iconst 3, 1) := by decide +kernel
theorem dX9_lays_26 : decode cX9_lays 26 = .ok (.aload_n 0, 1) := by decide +kernel
theorem dX9_lays_27 : decode cX9_lays 27 = .ok (.getfield 7, 3) := by decide +kernel
theorem dX9_lays_30 : decode cX9_lays 30 = .ok (.bipush 6, 2) := by decide +kernel
theorem dX9_lays_32 : decode cX9_lays 32 = .ok (.iload_n 1, 1) := by decide +kernel
theorem dX9_lays_33 : decode cX9_lays 33 = .ok (.iadd, 1) := by decide +kernel
theorem dX9_lays_34 : decode cX9_lays 34 = .ok (.iaload, 1) := by decide +kernel
theorem dX9_lays_35 : decode cX9_lays 35 = .ok (.iastore, 1) := by decide +kernel
theorem dX9_lays_36 : decode cX9_lays 36 = .ok (.aload_n 0, 1) := by decide +kernel
theorem dX9_lays_37 : decode cX9_lays 37 = .ok (.getfield 37, 3) := by decide +kernel
theorem dX9_lays_40 : decode cX9_lays 40 = .ok (.iconst 4, 1) := by decide +kernel
theorem dX9_lays_41 : decode cX9_lays 41 = .ok (.iload_n 2, 1) := by decide +kernel
theorem dX9_lays_42 : decode cX9_lays 42 = .ok (.iastore, 1) := by decide +kernel
theorem dX9_lays_43 : decode cX9_lays 43 = .ok (.aload_n 0, 1) := by decide +kernel
theorem dX9_lays_44 : decode cX9_lays 44 = .ok (.getfield 37, 3) := by decide +kernel
theorem dX9_lays_47 : decode cX9_lays 47 = .ok (.iconst 5, 1) := by decide +kernel
theorem dX9_lays_48 : decode cX9_lays 48 = .ok (.iload_n 3, 1) := by decide +kernel
theorem dX9_lays_49 : decode cX9_lays 49 = .ok (.iastore, 1) := by decide +kernel
theorem dX9_lays_50 : decode cX9_lays 50 = .ok (.aload_n 0, 1) := by decide +kernel
theorem dX9_lays_51 : decode cX9_lays 51 = .ok (.getfield 37, 3) := by decide +kernel
theorem dX9_lays_54 : decode cX9_lays 54 = .ok (.bipush 6, 2) := by decide +kernel
theorem dX9_lays_56 : decode cX9_lays 56 = .ok (.iload 4, 2) := by decide +kernel
theorem dX9_lays_58 : decode cX9_lays 58 = .ok (.iastore, 1) := by decide +kernel
theorem dX9_lays_59 : decode cX9_lays 59 = .ok (.aload_n 0, 1) := by decide +kernel
theorem dX9_lays_60 : decode cX9_lays 60 = .ok (.getfield 37, 3) := by decide +kernel
theorem dX9_lays_63 : decode cX9_lays 63 = .ok (.bipush 7, 2) := by decide +kernel
theorem dX9_lays_65 : decode cX9_lays 65 = .ok (.aload_n 0, 1) := by decide +kernel
theorem dX9_lays_66 : decode cX9_lays 66 = .ok (.iload_n 1, 1) := by decide +kernel
theorem dX9_lays_67 : decode cX9_lays 67 = .ok (.aload_n 0, 1) := by decide +kernel
theorem dX9_lays_68 : decode cX9_lays 68 = .ok (.invokevirtual 317, 3) := by decide +kernel
theorem dX9_lays_71 : decode cX9_lays 71 = .ok (.invokevirtual 314, 3) := by decide +kernel
theorem dX9_lays_74 : decode cX9_lays 74 = .ok (.iconst 1, 1) := by decide +kernel
theorem dX9_lays_75 : decode cX9_lays 75 = .ok (.if_icmp .ne 7, 3) := by decide +kernel
theorem dX9_lays_78 : decode cX9_lays 78 = .ok (.iconst 1, 1) := by decide +kernel
theorem dX9_lays_79 : decode cX9_lays 79 = .ok (.goto 4, 3) := by decide +kernel
theorem dX9_lays_82 : decode cX9_lays 82 = .ok (.iconst 0, 1) := by decide +kernel
theorem dX9_lays_83 : decode cX9_lays 83 = .ok (.iastore, 1) := by decide +kernel
theorem dX9_lays_84 : decode cX9_lays 84 = .ok (.aload_n 0, 1) := by decide +kernel
theorem dX9_lays_85 : decode cX9_lays 85 = .ok (.getfield 37, 3) := by decide +kernel
theorem dX9_lays_88 : decode cX9_lays 88 = .ok (.bipush 8, 2) := by decide +kernel
theorem dX9_lays_90 : decode cX9_lays 90 = .ok (.aload_n 0, 1) := by decide +kernel
theorem dX9_lays_91 : decode cX9_lays 91 = .ok (.invokevirtual 317, 3) := by decide +kernel
theorem dX9_lays_94 : decode cX9_lays 94 = .ok (.iastore, 1) := by decide +kernel
theorem dX9_lays_95 : decode cX9_lays 95 = .ok (.aload_n 0, 1) := by decide +kernel
theorem dX9_lays_96 : decode cX9_lays 96 = .ok (.getfield 37, 3) := by decide +kernel
theorem dX9_lays_99 : decode cX9_lays 99 = .ok (.bipush 9, 2) := by decide +kernel
theorem dX9_lays_101 : decode cX9_lays 101 = .ok (.aload_n 0, 1) := by decide +kernel
theorem dX9_lays_102 : decode cX9_lays 102 = .ok (.getfield 7, 3) := by decide +kernel
theorem dX9_lays_105 : decode cX9_lays 105 = .ok (.sipush 549, 3) := by decide +kernel
theorem dX9_lays_108 : decode cX9_lays 108 = .ok (.iload_n 1, 1) := by decide +kernel
theorem dX9_lays_109 : decode cX9_lays 109 = .ok (.isub, 1) := by decide +kernel
theorem dX9_lays_110 : decode cX9_lays 110 = .ok (.iaload, 1) := by decide +kernel
theorem dX9_lays_111 : decode cX9_lays 111 = .ok (.iastore, 1) := by decide +kernel
theorem dX9_lays_112 : decode cX9_lays 112 = .ok (.aload_n 0, 1) := by decide +kernel
theorem dX9_lays_113 : decode cX9_lays 113 = .ok (.getfield 37, 3) := by decide +kernel
theorem dX9_lays_116 : decode cX9_lays 116 = .ok (.bipush 10, 2) := by decide +kernel
theorem dX9_lays_118 : decode cX9_lays 118 = .ok (.aload_n 0, 1) := by decide +kernel
theorem dX9_lays_119 : decode cX9_lays 119 = .ok (.getfield 7, 3) := by decide +kernel
theorem dX9_lays_122 : decode cX9_lays 122 = .ok (.iconst 3, 1) := by decide +kernel
theorem dX9_lays_123 : decode cX9_lays 123 = .ok (.iaload, 1) := by decide +kernel
theorem dX9_lays_124 : decode cX9_lays 124 = .ok (.iastore, 1) := by decide +kernel
theorem dX9_lays_125 : decode cX9_lays 125 = .ok (.return_, 1) := by decide +kernel
theorem dX9_laysMessage_0 : decode cX9_laysMessage 0 = .ok (.aload_n 0, 1) := by decide +kernel
theorem dX9_laysMessage_1 : decode cX9_laysMessage 1 = .ok (.aload_n 0, 1) := by decide +kernel
theorem dX9_laysMessage_2 : decode cX9_laysMessage 2 = .ok (.iload_n 1, 1) := by decide +kernel
theorem dX9_laysMessage_3 : decode cX9_laysMessage 3 = .ok (.invokevirtual 320, 3) := by decide +kernel
theorem dX9_laysMessage_6 : decode cX9_laysMessage 6 = .ok (.aload_n 0, 1) := by decide +kernel
theorem dX9_laysMessage_7 : decode cX9_laysMessage 7 = .ok (.iload_n 1, 1) := by decide +kernel
theorem dX9_laysMessage_8 : decode cX9_laysMessage 8 = .ok (.iconst 3, 1) := by decide +kernel
theorem dX9_laysMessage_9 : decode cX9_laysMessage 9 = .ok (.invokevirtual 76, 3) := by decide +kernel
theorem dX9_laysMessage_12 : decode cX9_laysMessage 12 = .ok (.aload_n 0, 1) := by decide +kernel
theorem dX9_laysMessage_13 : decode cX9_laysMessage 13 = .ok (.iload_n 1, 1) := by decide +kernel
theorem dX9_laysMessage_14 : decode cX9_laysMessage 14 = .ok (.iconst 4, 1) := by decide +kernel
theorem dX9_laysMessage_15 : decode cX9_laysMessage 15 = .ok (.invokevirtual 76, 3) := by decide +kernel
theorem dX9_laysMessage_18 : decode cX9_laysMessage 18 = .ok (.aload_n 0, 1) := by decide +kernel
theorem dX9_laysMessage_19 : decode cX9_laysMessage 19 = .ok (.iload_n 1, 1) := by decide +kernel
theorem dX9_laysMessage_20 : decode cX9_laysMessage 20 = .ok (.iconst 5, 1) := by decide +kernel
theorem dX9_laysMessage_21 : decode cX9_laysMessage 21 = .ok (.invokevirtual 76, 3) := by decide +kernel
theorem dX9_laysMessage_24 : decode cX9_laysMessage 24 = .ok (.invokevirtual 323, 3) := by decide +kernel
theorem dX9_laysMessage_27 : decode cX9_laysMessage 27 = .ok (.return_, 1) := by decide +kernel
theorem dX9_delayNow_0 : decode cX9_delayNow 0 = .ok (.aload_n 0, 1) := by decide +kernel
theorem dX9_delayNow_1 : decode cX9_delayNow 1 = .ok (.bipush 20, 2) := by decide +kernel
theorem dX9_delayNow_3 : decode cX9_delayNow 3 = .ok (.aload_n 0, 1) := by decide +kernel
theorem dX9_delayNow_4 : decode cX9_delayNow 4 = .ok (.getfield 37, 3) := by decide +kernel
theorem dX9_delayNow_7 : decode cX9_delayNow 7 = .ok (.iconst 3, 1) := by decide +kernel
theorem dX9_delayNow_8 : decode cX9_delayNow 8 = .ok (.iaload, 1) := by decide +kernel
theorem dX9_delayNow_9 : decode cX9_delayNow 9 = .ok (.iconst 1, 1) := by decide +kernel
theorem dX9_delayNow_10 : decode cX9_delayNow 10 = .ok (.sipush 999, 3) := by decide +kernel
theorem dX9_delayNow_13 : decode cX9_delayNow 13 = .ok (.invokevirtual 327, 3) := by decide +kernel
theorem dX9_delayNow_16 : decode cX9_delayNow 16 = .ok (.ireturn, 1) := by decide +kernel
theorem dX9_lastsNow_0 : decode cX9_lastsNow 0 = .ok (.aload_n 0, 1) := by decide +kernel
theorem dX9_lastsNow_1 : decode cX9_lastsNow 1 = .ok (.bipush 21, 2) := by decide +kernel
theorem dX9_lastsNow_3 : decode cX9_lastsNow 3 = .ok (.aload_n 0, 1) := by decide +kernel
theorem dX9_lastsNow_4 : decode cX9_lastsNow 4 = .ok (.getfield 37, 3) := by decide +kernel
theorem dX9_lastsNow_7 : decode cX9_lastsNow 7 = .ok (.iconst 4, 1) := by decide +kernel
theorem dX9_lastsNow_8 : decode cX9_lastsNow 8 = .ok (.iaload, 1) := by decide +kernel
theorem dX9_lastsNow_9 : decode cX9_lastsNow 9 = .ok (.iconst 2, 1) := by decide +kernel
theorem dX9_lastsNow_10 : decode cX9_lastsNow 10 = .ok (.idiv, 1) := by decide +kernel
theorem dX9_lastsNow_11 : decode cX9_lastsNow 11 = .ok (.iconst 1, 1) := by decide +kernel
theorem dX9_lastsNow_12 : decode cX9_lastsNow 12 = .ok (.iadd, 1) := by decide +kernel
theorem dX9_lastsNow_13 : decode cX9_lastsNow 13 = .ok (.iconst 1, 1) := by decide +kernel
theorem dX9_lastsNow_14 : decode cX9_lastsNow 14 = .ok (.bipush 99, 2) := by decide +kernel
theorem dX9_lastsNow_16 : decode cX9_lastsNow 16 = .ok (.invokevirtual 327, 3) := by decide +kernel
theorem dX9_lastsNow_19 : decode cX9_lastsNow 19 = .ok (.ireturn, 1) := by decide +kernel
theorem dX9_kissNow_0 : decode cX9_kissNow 0 = .ok (.aload_n 0, 1) := by decide +kernel
theorem dX9_kissNow_1 : decode cX9_kissNow 1 = .ok (.bipush 22, 2) := by decide +kernel
theorem dX9_kissNow_3 : decode cX9_kissNow 3 = .ok (.aload_n 0, 1) := by decide +kernel
theorem dX9_kissNow_4 : decode cX9_kissNow 4 = .ok (.getfield 37, 3) := by decide +kernel
theorem dX9_kissNow_7 : decode cX9_kissNow 7 = .ok (.iconst 5, 1) := by decide +kernel
theorem dX9_kissNow_8 : decode cX9_kissNow 8 = .ok (.iaload, 1) := by decide +kernel
theorem dX9_kissNow_9 : decode cX9_kissNow 9 = .ok (.iconst 0, 1) := by decide +kernel
theorem dX9_kissNow_10 : decode cX9_kissNow 10 = .ok (.bipush 9, 2) := by decide +kernel
theorem dX9_kissNow_12 : decode cX9_kissNow 12 = .ok (.invokevirtual 327, 3) := by decide +kernel
theorem dX9_kissNow_15 : decode cX9_kissNow 15 = .ok (.ireturn, 1) := by decide +kernel
theorem dX9_hurtNow_0 : decode cX9_hurtNow 0 = .ok (.aload_n 0, 1) := by decide +kernel
theorem dX9_hurtNow_1 : decode cX9_hurtNow 1 = .ok (.bipush 23, 2) := by decide +kernel
theorem dX9_hurtNow_3 : decode cX9_hurtNow 3 = .ok (.iconst 5, 1) := by decide +kernel
theorem dX9_hurtNow_4 : decode cX9_hurtNow 4 = .ok (.aload_n 0, 1) := by decide +kernel
theorem dX9_hurtNow_5 : decode cX9_hurtNow 5 = .ok (.getfield 37, 3) := by decide +kernel
theorem dX9_hurtNow_8 : decode cX9_hurtNow 8 = .ok (.bipush 6, 2) := by decide +kernel
theorem dX9_hurtNow_10 : decode cX9_hurtNow 10 = .ok (.iaload, 1) := by decide +kernel
theorem dX9_hurtNow_11 : decode cX9_hurtNow 11 = .ok (.imul, 1) := by decide +kernel
theorem dX9_hurtNow_12 : decode cX9_hurtNow 12 = .ok (.bipush (-50), 2) := by decide +kernel
theorem dX9_hurtNow_14 : decode cX9_hurtNow 14 = .ok (.bipush 50, 2) := by decide +kernel
theorem dX9_hurtNow_16 : decode cX9_hurtNow 16 = .ok (.invokevirtual 327, 3) := by decide +kernel
theorem dX9_hurtNow_19 : decode cX9_hurtNow 19 = .ok (.ireturn, 1) := by decide +kernel
theorem dX9_goNow_0 : decode cX9_goNow 0 = .ok (.aload_n 0, 1) := by decide +kernel
theorem dX9_goNow_1 : decode cX9_goNow 1 = .ok (.bipush 24, 2) := by decide +kernel
theorem dX9_goNow_3 : decode cX9_goNow 3 = .ok (.sipush 900, 3) := by decide +kernel
theorem dX9_goNow_6 : decode cX9_goNow 6 = .ok (.iconst 0, 1) := by decide +kernel
theorem dX9_goNow_7 : decode cX9_goNow 7 = .ok (.sipush 1000, 3) := by decide +kernel
theorem dX9_goNow_10 : decode cX9_goNow 10 = .ok (.invokevirtual 327, 3) := by decide +kernel
theorem dX9_goNow_13 : decode cX9_goNow 13 = .ok (.ireturn, 1) := by decide +kernel
theorem dX9_keeps_0 : decode cX9_keeps 0 = .ok (.aload_n 0, 1) := by decide +kernel
theorem dX9_keeps_1 : decode cX9_keeps 1 = .ok (.getfield 83, 3) := by decide +kernel
theorem dX9_keeps_4 : decode cX9_keeps 4 = .ok (.bipush 6, 2) := by decide +kernel
theorem dX9_keeps_6 : decode cX9_keeps 6 = .ok (.if_icmp .ne 44, 3) := by decide +kernel
theorem dX9_keeps_9 : decode cX9_keeps 9 = .ok (.iconst 0, 1) := by decide +kernel
theorem dX9_keeps_10 : decode cX9_keeps 10 = .ok (.istore_n 1, 1) := by decide +kernel
theorem dX9_keeps_11 : decode cX9_keeps 11 = .ok (.iload_n 1, 1) := by decide +kernel
theorem dX9_keeps_12 : decode cX9_keeps 12 = .ok (.sipush 2740, 3) := by decide +kernel
theorem dX9_keeps_15 : decode cX9_keeps 15 = .ok (.if_icmp .ge 25, 3) := by decide +kernel
theorem dX9_keeps_18 : decode cX9_keeps 18 = .ok (.aload_n 0, 1) := by decide +kernel
theorem dX9_keeps_19 : decode cX9_keeps 19 = .ok (.getfield 16, 3) := by decide +kernel
theorem dX9_keeps_22 : decode cX9_keeps 22 = .ok (.iload_n 1, 1) := by decide +kernel
theorem dX9_keeps_23 : decode cX9_keeps 23 = .ok (.aload_n 0, 1) := by decide +kernel
theorem dX9_keeps_24 : decode cX9_keeps 24 = .ok (.getfield 16, 3) := by decide +kernel
theorem dX9_keeps_27 : decode cX9_keeps 27 = .ok (.iload_n 1, 1) := by decide +kernel
theorem dX9_keeps_28 : decode cX9_keeps 28 = .ok (.sipush 548, 3) := by decide +kernel
theorem dX9_keeps_31 : decode cX9_keeps 31 = .ok (.iadd, 1) := by decide +kernel
theorem dX9_keeps_32 : decode cX9_keeps 32 = .ok (.iaload, 1) := by decide +kernel
theorem dX9_keeps_33 : decode cX9_keeps 33 = .ok (.iastore, 1) := by decide +kernel
theorem dX9_keeps_34 : decode cX9_keeps 34 = .ok (.iinc 1 1, 3) := by decide +kernel
theorem dX9_keeps_37 : decode cX9_keeps 37 = .ok (.goto (-26), 3) := by decide +kernel
theorem dX9_keeps_40 : decode cX9_keeps 40 = .ok (.aload_n 0, 1) := by decide +kernel
theorem dX9_keeps_41 : decode cX9_keeps 41 = .ok (.dup, 1) := by decide +kernel
theorem dX9_keeps_42 : decode cX9_keeps 42 = .ok (.getfield 83, 3) := by decide +kernel
theorem dX9_keeps_45 : decode cX9_keeps 45 = .ok (.iconst 1, 1) := by decide +kernel
theorem dX9_keeps_46 : decode cX9_keeps 46 = .ok (.isub, 1) := by decide +kernel
theorem dX9_keeps_47 : decode cX9_keeps 47 = .ok (.putfield 83, 3) := by decide +kernel
theorem dX9_keeps_50 : decode cX9_keeps 50 = .ok (.iconst 0, 1) := by decide +kernel
theorem dX9_keeps_51 : decode cX9_keeps 51 = .ok (.istore_n 1, 1) := by decide +kernel
theorem dX9_keeps_52 : decode cX9_keeps 52 = .ok (.iload_n 1, 1) := by decide +kernel
theorem dX9_keeps_53 : decode cX9_keeps 53 = .ok (.sipush 548, 3) := by decide +kernel
theorem dX9_keeps_56 : decode cX9_keeps 56 = .ok (.if_icmp .ge 30, 3) := by decide +kernel
theorem dX9_keeps_59 : decode cX9_keeps 59 = .ok (.aload_n 0, 1) := by decide +kernel
theorem dX9_keeps_60 : decode cX9_keeps 60 = .ok (.getfield 16, 3) := by decide +kernel
theorem dX9_keeps_63 : decode cX9_keeps 63 = .ok (.sipush 548, 3) := by decide +kernel
theorem dX9_keeps_66 : decode cX9_keeps 66 = .ok (.aload_n 0, 1) := by decide +kernel
theorem dX9_keeps_67 : decode cX9_keeps 67 = .ok (.getfield 83, 3) := by decide +kernel
theorem dX9_keeps_70 : decode cX9_keeps 70 = .ok (.imul, 1) := by decide +kernel
theorem dX9_keeps_71 : decode cX9_keeps 71 = .ok (.iload_n 1, 1) := by decide +kernel
theorem dX9_keeps_72 : decode cX9_keeps 72 = .ok (.iadd, 1) := by decide +kernel
theorem dX9_keeps_73 : decode cX9_keeps 73 = .ok (.aload_n 0, 1) := by decide +kernel
theorem dX9_keeps_74 : decode cX9_keeps 74 = .ok (.getfield 7, 3) := by decide +kernel
theorem dX9_keeps_77 : decode cX9_keeps 77 = .ok (.iload_n 1, 1) := by decide +kernel
theorem dX9_keeps_78 : decode cX9_keeps 78 = .ok (.iaload, 1) := by decide +kernel
theorem dX9_keeps_79 : decode cX9_keeps 79 = .ok (.iastore, 1) := by decide +kernel
theorem dX9_keeps_80 : decode cX9_keeps 80 = .ok (.iinc 1 1, 3) := by decide +kernel
theorem dX9_keeps_83 : decode cX9_keeps 83 = .ok (.goto (-31), 3) := by decide +kernel
theorem dX9_keeps_86 : decode cX9_keeps 86 = .ok (.aload_n 0, 1) := by decide +kernel
theorem dX9_keeps_87 : decode cX9_keeps 87 = .ok (.dup, 1) := by decide +kernel
theorem dX9_keeps_88 : decode cX9_keeps 88 = .ok (.getfield 83, 3) := by decide +kernel
theorem dX9_keeps_91 : decode cX9_keeps 91 = .ok (.iconst 1, 1) := by decide +kernel
theorem dX9_keeps_92 : decode cX9_keeps 92 = .ok (.iadd, 1) := by decide +kernel
theorem dX9_keeps_93 : decode cX9_keeps 93 = .ok (.putfield 83, 3) := by decide +kernel
theorem dX9_keeps_96 : decode cX9_keeps 96 = .ok (.aload_n 0, 1) := by decide +kernel
theorem dX9_keeps_97 : decode cX9_keeps 97 = .ok (.iconst 1, 1) := by decide +kernel
theorem dX9_keeps_98 : decode cX9_keeps 98 = .ok (.putfield 330, 3) := by decide +kernel
theorem dX9_keeps_101 : decode cX9_keeps 101 = .ok (.aload_n 0, 1) := by decide +kernel
theorem dX9_keeps_102 : decode cX9_keeps 102 = .ok (.iconst (-1), 1) := by decide +kernel
theorem dX9_keeps_103 : decode cX9_keeps 103 = .ok (.putfield 44, 3) := by decide +kernel
theorem dX9_keeps_106 : decode cX9_keeps 106 = .ok (.return_, 1) := by decide +kernel
theorem dX9_undo_0 : decode cX9_undo 0 = .ok (.aload_n 0, 1) := by decide +kernel
theorem dX9_undo_1 : decode cX9_undo 1 = .ok (.getfield 83, 3) := by decide +kernel
theorem dX9_undo_4 : decode cX9_undo 4 = .ok (.ifCond .ne 5, 3) := by decide +kernel
theorem dX9_undo_7 : decode cX9_undo 7 = .ok (.iconst 0, 1) := by decide +kernel
theorem dX9_undo_8 : decode cX9_undo 8 = .ok (.ireturn, 1) := by decide +kernel
theorem dX9_undo_9 : decode cX9_undo 9 = .ok (.aload_n 0, 1) := by decide +kernel
theorem dX9_undo_10 : decode cX9_undo 10 = .ok (.dup, 1) := by decide +kernel
theorem dX9_undo_11 : decode cX9_undo 11 = .ok (.getfield 83, 3) := by decide +kernel
theorem dX9_undo_14 : decode cX9_undo 14 = .ok (.iconst 1, 1) := by decide +kernel
theorem dX9_undo_15 : decode cX9_undo 15 = .ok (.isub, 1) := by decide +kernel
theorem dX9_undo_16 : decode cX9_undo 16 = .ok (.putfield 83, 3) := by decide +kernel
theorem dX9_undo_19 : decode cX9_undo 19 = .ok (.iconst 0, 1) := by decide +kernel
theorem dX9_undo_20 : decode cX9_undo 20 = .ok (.istore_n 1, 1) := by decide +kernel
theorem dX9_undo_21 : decode cX9_undo 21 = .ok (.iload_n 1, 1) := by decide +kernel
theorem dX9_undo_22 : decode cX9_undo 22 = .ok (.sipush 548, 3) := by decide +kernel
theorem dX9_undo_25 : decode cX9_undo 25 = .ok (.if_icmp .ge 30, 3) := by decide +kernel
theorem dX9_undo_28 : decode cX9_undo 28 = .ok (.aload_n 0, 1) := by decide +kernel
theorem dX9_undo_29 : decode cX9_undo 29 = .ok (.getfield 7, 3) := by decide +kernel
theorem dX9_undo_32 : decode cX9_undo 32 = .ok (.iload_n 1, 1) := by decide +kernel
theorem dX9_undo_33 : decode cX9_undo 33 = .ok (.aload_n 0, 1) := by decide +kernel
theorem dX9_undo_34 : decode cX9_undo 34 = .ok (.getfield 16, 3) := by decide +kernel
theorem dX9_undo_37 : decode cX9_undo 37 = .ok (.sipush 548, 3) := by decide +kernel
theorem dX9_undo_40 : decode cX9_undo 40 = .ok (.aload_n 0, 1) := by decide +kernel
theorem dX9_undo_41 : decode cX9_undo 41 = .ok (.getfield 83, 3) := by decide +kernel
theorem dX9_undo_44 : decode cX9_undo 44 = .ok (.imul, 1) := by decide +kernel
theorem dX9_undo_45 : decode cX9_undo 45 = .ok (.iload_n 1, 1) := by decide +kernel
theorem dX9_undo_46 : decode cX9_undo 46 = .ok (.iadd, 1) := by decide +kernel
theorem dX9_undo_47 : decode cX9_undo 47 = .ok (.iaload, 1) := by decide +kernel
theorem dX9_undo_48 : decode cX9_undo 48 = .ok (.iastore, 1) := by decide +kernel
theorem dX9_undo_49 : decode cX9_undo 49 = .ok (.iinc 1 1, 3) := by decide +kernel
theorem dX9_undo_52 : decode cX9_undo 52 = .ok (.goto (-31), 3) := by decide +kernel
theorem dX9_undo_55 : decode cX9_undo 55 = .ok (.iconst 1, 1) := by decide +kernel
theorem dX9_undo_56 : decode cX9_undo 56 = .ok (.ireturn, 1) := by decide +kernel
theorem dX9_notes_0 : decode cX9_notes 0 = .ok (.aload_n 0, 1) := by decide +kernel
theorem dX9_notes_1 : decode cX9_notes 1 = .ok (.getfield 330, 3) := by decide +kernel
theorem dX9_notes_4 : decode cX9_notes 4 = .ok (.ifCond .eq 15, 3) := by decide +kernel
theorem dX9_notes_7 : decode cX9_notes 7 = .ok (.aload_n 0, 1) := by decide +kernel
theorem dX9_notes_8 : decode cX9_notes 8 = .ok (.getfield 7, 3) := by decide +kernel
theorem dX9_notes_11 : decode cX9_notes 11 = .ok (.iconst 2, 1) := by decide +kernel
theorem dX9_notes_12 : decode cX9_notes 12 = .ok (.iaload, 1) := by decide +kernel
theorem dX9_notes_13 : decode cX9_notes 13 = .ok (.sipush 150, 3) := by decide +kernel
theorem dX9_notes_16 : decode cX9_notes 16 = .ok (.if_icmp .ne 4, 3) := by decide +kernel
theorem dX9_notes_19 : decode cX9_notes 19 = .ok (.return_, 1) := by decide +kernel
theorem dX9_notes_20 : decode cX9_notes 20 = .ok (.sipush 733, 3) := by decide +kernel
theorem dX9_notes_23 : decode cX9_notes 23 = .ok (.iconst 4, 1) := by decide +kernel
theorem dX9_notes_24 : decode cX9_notes 24 = .ok (.aload_n 0, 1) := by decide +kernel
theorem dX9_notes_25 : decode cX9_notes 25 = .ok (.getfield 7, 3) := by decide +kernel
theorem dX9_notes_28 : decode cX9_notes 28 = .ok (.iconst 2, 1) := by decide +kernel
theorem dX9_notes_29 : decode cX9_notes 29 = .ok (.iaload, 1) := by decide +kernel
theorem dX9_notes_30 : decode cX9_notes 30 = .ok (.imul, 1) := by decide +kernel
theorem dX9_notes_31 : decode cX9_notes 31 = .ok (.iadd, 1) := by decide +kernel
theorem dX9_notes_32 : decode cX9_notes 32 = .ok (.istore 4, 2) := by decide +kernel
theorem dX9_notes_34 : decode cX9_notes 34 = .ok (.aload_n 0, 1) := by decide +kernel
theorem dX9_notes_35 : decode cX9_notes 35 = .ok (.getfield 7, 3) := by decide +kernel
theorem dX9_notes_38 : decode cX9_notes 38 = .ok (.iload 4, 2) := by decide +kernel
theorem dX9_notes_40 : decode cX9_notes 40 = .ok (.aload_n 0, 1) := by decide +kernel
theorem dX9_notes_41 : decode cX9_notes 41 = .ok (.getfield 7, 3) := by decide +kernel
theorem dX9_notes_44 : decode cX9_notes 44 = .ok (.iconst 0, 1) := by decide +kernel
theorem dX9_notes_45 : decode cX9_notes 45 = .ok (.iaload, 1) := by decide +kernel
theorem dX9_notes_46 : decode cX9_notes 46 = .ok (.iastore, 1) := by decide +kernel
theorem dX9_notes_47 : decode cX9_notes 47 = .ok (.aload_n 0, 1) := by decide +kernel
theorem dX9_notes_48 : decode cX9_notes 48 = .ok (.getfield 7, 3) := by decide +kernel
theorem dX9_notes_51 : decode cX9_notes 51 = .ok (.iload 4, 2) := by decide +kernel
theorem dX9_notes_53 : decode cX9_notes 53 = .ok (.iconst 1, 1) := by decide +kernel
theorem dX9_notes_54 : decode cX9_notes 54 = .ok (.iadd, 1) := by decide +kernel
theorem dX9_notes_55 : decode cX9_notes 55 = .ok (.iload_n 1, 1) := by decide +kernel
theorem dX9_notes_56 : decode cX9_notes 56 = .ok (.iastore, 1) := by decide +kernel
theorem dX9_notes_57 : decode cX9_notes 57 = .ok (.aload_n 0, 1) := by decide +kernel
theorem dX9_notes_58 : decode cX9_notes 58 = .ok (.getfield 7, 3) := by decide +kernel
theorem dX9_notes_61 : decode cX9_notes 61 = .ok (.iload 4, 2) := by decide +kernel
theorem dX9_notes_63 : decode cX9_notes 63 = .ok (.iconst 2, 1) := by decide +kernel
theorem dX9_notes_64 : decode cX9_notes 64 = .ok (.iadd, 1) := by decide +kernel
theorem dX9_notes_65 : decode cX9_notes 65 = .ok (.iload_n 2, 1) := by decide +kernel
theorem dX9_notes_66 : decode cX9_notes 66 = .ok (.iastore, 1) := by decide +kernel
theorem dX9_notes_67 : decode cX9_notes 67 = .ok (.aload_n 0, 1) := by decide +kernel
theorem dX9_notes_68 : decode cX9_notes 68 = .ok (.getfield 7, 3) := by decide +kernel
theorem dX9_notes_71 : decode cX9_notes 71 = .ok (.iload 4, 2) := by decide +kernel
theorem dX9_notes_73 : decode cX9_notes 73 = .ok (.iconst 3, 1) := by decide +kernel
theorem dX9_notes_74 : decode cX9_notes 74 = .ok (.iadd, 1) := by decide +kernel
theorem dX9_notes_75 : decode cX9_notes 75 = .ok (.iload_n 3, 1) := by decide +kernel
theorem dX9_notes_76 : decode cX9_notes 76 = .ok (.iastore, 1) := by decide +kernel
theorem dX9_notes_77 : decode cX9_notes 77 = .ok (.aload_n 0, 1) := by decide +kernel
theorem dX9_notes_78 : decode cX9_notes 78 = .ok (.getfield 7, 3) := by decide +kernel
theorem dX9_notes_81 : decode cX9_notes 81 = .ok (.iconst 2, 1) := by decide +kernel
theorem dX9_notes_82 : decode cX9_notes 82 = .ok (.dup2, 1) := by decide +kernel
theorem dX9_notes_83 : decode cX9_notes 83 = .ok (.iaload, 1) := by decide +kernel
theorem dX9_notes_84 : decode cX9_notes 84 = .ok (.iconst 1, 1) := by decide +kernel
theorem dX9_notes_85 : decode cX9_notes 85 = .ok (.iadd, 1) := by decide +kernel
theorem dX9_notes_86 : decode cX9_notes 86 = .ok (.iastore, 1) := by decide +kernel
theorem dX9_notes_87 : decode cX9_notes 87 = .ok (.return_, 1) := by decide +kernel
theorem dX9_comes_0 : decode cX9_comes 0 = .ok (.aload_n 0, 1) := by decide +kernel
theorem dX9_comes_1 : decode cX9_comes 1 = .ok (.getfield 7, 3) := by decide +kernel
theorem dX9_comes_4 : decode cX9_comes 4 = .ok (.iconst 3, 1) := by decide +kernel
theorem dX9_comes_5 : decode cX9_comes 5 = .ok (.iaload, 1) := by decide +kernel
theorem dX9_comes_6 : decode cX9_comes 6 = .ok (.istore 6, 2) := by decide +kernel
theorem dX9_comes_8 : decode cX9_comes 8 = .ok (.aload_n 0, 1) := by decide +kernel
theorem dX9_comes_9 : decode cX9_comes 9 = .ok (.iload 6, 2) := by decide +kernel
theorem dX9_comes_11 : decode cX9_comes 11 = .ok (.iconst 0, 1) := by decide +kernel
theorem dX9_comes_12 : decode cX9_comes 12 = .ok (.iload_n 1, 1) := by decide +kernel
theorem dX9_comes_13 : decode cX9_comes 13 = .ok (.invokevirtual 334, 3) := by decide +kernel
theorem dX9_comes_16 : decode cX9_comes 16 = .ok (.aload_n 0, 1) := by decide +kernel
theorem dX9_comes_17 : decode cX9_comes 17 = .ok (.iload 6, 2) := by decide +kernel
theorem dX9_comes_19 : decode cX9_comes 19 = .ok (.iconst 1, 1) := by decide +kernel
theorem dX9_comes_20 : decode cX9_comes 20 = .ok (.aload_n 0, 1) := by decide +kernel
theorem dX9_comes_21 : decode cX9_comes 21 = .ok (.getfield 7, 3) := by decide +kernel
theorem dX9_comes_24 : decode cX9_comes 24 = .ok (.iconst 0, 1) := by decide +kernel
theorem dX9_comes_25 : decode cX9_comes 25 = .ok (.iaload, 1) := by decide +kernel
theorem dX9_comes_26 : decode cX9_comes 26 = .ok (.invokevirtual 334, 3) := by decide +kernel
theorem dX9_comes_29 : decode cX9_comes 29 = .ok (.aload_n 0, 1) := by decide +kernel
theorem dX9_comes_30 : decode cX9_comes 30 = .ok (.iload 6, 2) := by decide +kernel
theorem dX9_comes_32 : decode cX9_comes 32 = .ok (.iconst 2, 1) := by decide +kernel
theorem dX9_comes_33 : decode cX9_comes 33 = .ok (.iconst (-1), 1) := by decide +kernel
theorem dX9_comes_34 : decode cX9_comes 34 = .ok (.invokevirtual 334, 3) := by decide +kernel
theorem dX9_comes_37 : decode cX9_comes 37 = .ok (.aload_n 0, 1) := by decide +kernel
theorem dX9_comes_38 : decode cX9_comes 38 = .ok (.iload 6, 2) := by decide +kernel
theorem dX9_comes_40 : decode cX9_comes 40 = .ok (.iconst 3, 1) := by decide +kernel
theorem dX9_comes_41 : decode cX9_comes 41 = .ok (.iload_n 2, 1) := by decide +kernel
theorem dX9_comes_42 : decode cX9_comes 42 = .ok (.invokevirtual 334, 3) := by decide +kernel
theorem dX9_comes_45 : decode cX9_comes 45 = .ok (.aload_n 0, 1) := by decide +kernel
theorem dX9_comes_46 : decode cX9_comes 46 = .ok (.iload 6, 2) := by decide +kernel
theorem dX9_comes_48 : decode cX9_comes 48 = .ok (.iconst 4, 1) := by decide +kernel
theorem dX9_comes_49 : decode cX9_comes 49 = .ok (.iload_n 3, 1) := by decide +kernel
theorem dX9_comes_50 : decode cX9_comes 50 = .ok (.invokevirtual 334, 3) := by decide +kernel
theorem dX9_comes_53 : decode cX9_comes 53 = .ok (.aload_n 0, 1) := by decide +kernel
theorem dX9_comes_54 : decode cX9_comes 54 = .ok (.iload 6, 2) := by decide +kernel
theorem dX9_comes_56 : decode cX9_comes 56 = .ok (.iconst 5, 1) := by decide +kernel
theorem dX9_comes_57 : decode cX9_comes 57 = .ok (.iload 4, 2) := by decide +kernel
theorem dX9_comes_59 : decode cX9_comes 59 = .ok (.invokevirtual 334, 3) := by decide +kernel
theorem dX9_comes_62 : decode cX9_comes 62 = .ok (.aload_n 0, 1) := by decide +kernel
theorem dX9_comes_63 : decode cX9_comes 63 = .ok (.iload 6, 2) := by decide +kernel
theorem dX9_comes_65 : decode cX9_comes 65 = .ok (.bipush 6, 2) := by decide +kernel
theorem dX9_comes_67 : decode cX9_comes 67 = .ok (.iload 5, 2) := by decide +kernel
theorem dX9_comes_69 : decode cX9_comes 69 = .ok (.invokevirtual 334, 3) := by decide +kernel
theorem dX9_comes_72 : decode cX9_comes 72 = .ok (.aload_n 0, 1) := by decide +kernel
theorem dX9_comes_73 : decode cX9_comes 73 = .ok (.iload 6, 2) := by decide +kernel
theorem dX9_comes_75 : decode cX9_comes 75 = .ok (.bipush 7, 2) := by decide +kernel
theorem dX9_comes_77 : decode cX9_comes 77 = .ok (.iconst 0, 1) := by decide +kernel
theorem dX9_comes_78 : decode cX9_comes 78 = .ok (.invokevirtual 334, 3) := by decide +kernel
theorem dX9_comes_81 : decode cX9_comes 81 = .ok (.aload_n 0, 1) := by decide +kernel
theorem dX9_comes_82 : decode cX9_comes 82 = .ok (.iload 6, 2) := by decide +kernel
theorem dX9_comes_84 : decode cX9_comes 84 = .ok (.bipush 8, 2) := by decide +kernel
theorem dX9_comes_86 : decode cX9_comes 86 = .ok (.iconst (-1), 1) := by decide +kernel
theorem dX9_comes_87 : decode cX9_comes 87 = .ok (.invokevirtual 334, 3) := by decide +kernel
theorem dX9_comes_90 : decode cX9_comes 90 = .ok (.aload_n 0, 1) := by decide +kernel
theorem dX9_comes_91 : decode cX9_comes 91 = .ok (.getfield 7, 3) := by decide +kernel
theorem dX9_comes_94 : decode cX9_comes 94 = .ok (.iconst 3, 1) := by decide +kernel
theorem dX9_comes_95 : decode cX9_comes 95 = .ok (.dup2, 1) := by decide +kernel
theorem dX9_comes_96 : decode cX9_comes 96 = .ok (.iaload, 1) := by decide +kernel
theorem dX9_comes_97 : decode cX9_comes 97 = .ok (.iconst 1, 1) := by decide +kernel
theorem dX9_comes_98 : decode cX9_comes 98 = .ok (.iadd, 1) := by decide +kernel
theorem dX9_comes_99 : decode cX9_comes 99 = .ok (.iastore, 1) := by decide +kernel
theorem dX9_comes_100 : decode cX9_comes 100 = .ok (.iload 6, 2) := by decide +kernel
theorem dX9_comes_102 : decode cX9_comes 102 = .ok (.ireturn, 1) := by decide +kernel
theorem dX9_saysNow_0 : decode cX9_saysNow 0 = .ok (.aload_n 0, 1) := by decide +kernel
theorem dX9_saysNow_1 : decode cX9_saysNow 1 = .ok (.iload_n 1, 1) := by decide +kernel
theorem dX9_saysNow_2 : decode cX9_saysNow 2 = .ok (.iload_n 2, 1) := by decide +kernel
theorem dX9_saysNow_3 : decode cX9_saysNow 3 = .ok (.iload_n 3, 1) := by decide +kernel
theorem dX9_saysNow_4 : decode cX9_saysNow 4 = .ok (.iload 4, 2) := by decide +kernel
theorem dX9_saysNow_6 : decode cX9_saysNow 6 = .ok (.iconst (-1), 1) := by decide +kernel
theorem dX9_saysNow_7 : decode cX9_saysNow 7 = .ok (.invokevirtual 338, 3) := by decide +kernel
theorem dX9_saysNow_10 : decode cX9_saysNow 10 = .ok (.istore 5, 2) := by decide +kernel
theorem dX9_saysNow_12 : decode cX9_saysNow 12 = .ok (.aload_n 0, 1) := by decide +kernel
theorem dX9_saysNow_13 : decode cX9_saysNow 13 = .ok (.iconst 0, 1) := by decide +kernel
theorem dX9_saysNow_14 : decode cX9_saysNow 14 = .ok (.iload_n 1, 1) := by decide +kernel
theorem dX9_saysNow_15 : decode cX9_saysNow 15 = .ok (.iload 5, 2) := by decide +kernel
theorem dX9_saysNow_17 : decode cX9_saysNow 17 = .ok (.invokevirtual 342, 3) := by decide +kernel
theorem dX9_saysNow_20 : decode cX9_saysNow 20 = .ok (.iload 5, 2) := by decide +kernel
theorem dX9_saysNow_22 : decode cX9_saysNow 22 = .ok (.ireturn, 1) := by decide +kernel
theorem dX9_say_0 : decode cX9_say 0 = .ok (.iload_n 1, 1) := by decide +kernel
theorem dX9_say_1 : decode cX9_say 1 = .ok (.invokestatic 91, 3) := by decide +kernel
theorem dX9_say_4 : decode cX9_say 4 = .ok (.ifCond .eq 34, 3) := by decide +kernel
theorem dX9_say_7 : decode cX9_say 7 = .ok (.iload_n 2, 1) := by decide +kernel
theorem dX9_say_8 : decode cX9_say 8 = .ok (.iconst 1, 1) := by decide +kernel
theorem dX9_say_9 : decode cX9_say 9 = .ok (.bipush 99, 2) := by decide +kernel
theorem dX9_say_11 : decode cX9_say 11 = .ok (.invokestatic 72, 3) := by decide +kernel
theorem dX9_say_14 : decode cX9_say 14 = .ok (.ifCond .eq 24, 3) := by decide +kernel
theorem dX9_say_17 : decode cX9_say 17 = .ok (.iload_n 3, 1) := by decide +kernel
theorem dX9_say_18 : decode cX9_say 18 = .ok (.iconst 0, 1) := by decide +kernel
theorem dX9_say_19 : decode cX9_say 19 = .ok (.bipush 9, 2) := by decide +kernel
theorem dX9_say_21 : decode cX9_say 21 = .ok (.invokestatic 72, 3) := by decide +kernel
theorem dX9_say_24 : decode cX9_say 24 = .ok (.ifCond .eq 14, 3) := by decide +kernel
theorem dX9_say_27 : decode cX9_say 27 = .ok (.aload_n 0, 1) := by decide +kernel
theorem dX9_say_28 : decode cX9_say 28 = .ok (.getfield 7, 3) := by decide +kernel
theorem dX9_say_31 : decode cX9_say 31 = .ok (.iconst 3, 1) := by decide +kernel
theorem dX9_say_32 : decode cX9_say 32 = .ok (.iaload, 1) := by decide +kernel
theorem dX9_say_33 : decode cX9_say 33 = .ok (.bipush 60, 2) := by decide +kernel
theorem dX9_say_35 : decode cX9_say 35 = .ok (.if_icmp .ne 5, 3) := by decide +kernel
theorem dX9_say_38 : decode cX9_say 38 = .ok (.iconst (-1), 1) := by decide +kernel
theorem dX9_say_39 : decode cX9_say 39 = .ok (.ireturn, 1) := by decide +kernel
theorem dX9_say_40 : decode cX9_say 40 = .ok (.aload_n 0, 1) := by decide +kernel
theorem dX9_say_41 : decode cX9_say 41 = .ok (.invokevirtual 345, 3) := by decide +kernel
theorem dX9_say_44 : decode cX9_say 44 = .ok (.aload_n 0, 1) := by decide +kernel
theorem dX9_say_45 : decode cX9_say 45 = .ok (.iload_n 1, 1) := by decide +kernel
theorem dX9_say_46 : decode cX9_say 46 = .ok (.iload_n 2, 1) := by decide +kernel
theorem dX9_say_47 : decode cX9_say 47 = .ok (.iload_n 3, 1) := by decide +kernel
theorem dX9_say_48 : decode cX9_say 48 = .ok (.iload 4, 2) := by decide +kernel
theorem dX9_say_50 : decode cX9_say 50 = .ok (.ifCond .eq 7, 3) := by decide +kernel
theorem dX9_say_53 : decode cX9_say 53 = .ok (.iconst 1, 1) := by decide +kernel
theorem dX9_say_54 : decode cX9_say 54 = .ok (.goto 4, 3) := by decide +kernel
theorem dX9_say_57 : decode cX9_say 57 = .ok (.iconst 0, 1) := by decide +kernel
theorem dX9_say_58 : decode cX9_say 58 = .ok (.invokevirtual 348, 3) := by decide +kernel
theorem dX9_say_61 : decode cX9_say 61 = .ok (.ireturn, 1) := by decide +kernel
theorem dX9_takesBack_0 : decode cX9_takesBack 0 = .ok (.aload_n 0, 1) := by decide +kernel
theorem dX9_takesBack_1 : decode cX9_takesBack 1 = .ok (.iload_n 1, 1) := by decide +kernel
theorem dX9_takesBack_2 : decode cX9_takesBack 2 = .ok (.bipush 7, 2) := by decide +kernel
theorem dX9_takesBack_4 : decode cX9_takesBack 4 = .ok (.iconst 1, 1) := by decide +kernel
theorem dX9_takesBack_5 : decode cX9_takesBack 5 = .ok (.invokevirtual 334, 3) := by decide +kernel
theorem dX9_takesBack_8 : decode cX9_takesBack 8 = .ok (.aload_n 0, 1) := by decide +kernel
theorem dX9_takesBack_9 : decode cX9_takesBack 9 = .ok (.iconst 3, 1) := by decide +kernel
theorem dX9_takesBack_10 : decode cX9_takesBack 10 = .ok (.aload_n 0, 1) := by decide +kernel
theorem dX9_takesBack_11 : decode cX9_takesBack 11 = .ok (.iload_n 1, 1) := by decide +kernel
theorem dX9_takesBack_12 : decode cX9_takesBack 12 = .ok (.iconst 0, 1) := by decide +kernel
theorem dX9_takesBack_13 : decode cX9_takesBack 13 = .ok (.invokevirtual 76, 3) := by decide +kernel
theorem dX9_takesBack_16 : decode cX9_takesBack 16 = .ok (.iload_n 1, 1) := by decide +kernel
theorem dX9_takesBack_17 : decode cX9_takesBack 17 = .ok (.invokevirtual 342, 3) := by decide +kernel
theorem dX9_takesBack_20 : decode cX9_takesBack 20 = .ok (.return_, 1) := by decide +kernel
theorem dX9_takeBack_0 : decode cX9_takeBack 0 = .ok (.aload_n 0, 1) := by decide +kernel
theorem dX9_takeBack_1 : decode cX9_takeBack 1 = .ok (.iload_n 1, 1) := by decide +kernel
theorem dX9_takeBack_2 : decode cX9_takeBack 2 = .ok (.invokevirtual 351, 3) := by decide +kernel
theorem dX9_takeBack_5 : decode cX9_takeBack 5 = .ok (.ifCond .eq 11, 3) := by decide +kernel
theorem dX9_takeBack_8 : decode cX9_takeBack 8 = .ok (.aload_n 0, 1) := by decide +kernel
theorem dX9_takeBack_9 : decode cX9_takeBack 9 = .ok (.iload_n 1, 1) := by decide +kernel
theorem dX9_takeBack_10 : decode cX9_takeBack 10 = .ok (.invokevirtual 354, 3) := by decide +kernel
theorem dX9_takeBack_13 : decode cX9_takeBack 13 = .ok (.ifCond .ne 5, 3) := by decide +kernel
theorem dX9_takeBack_16 : decode cX9_takeBack 16 = .ok (.iconst 0, 1) := by decide +kernel
theorem dX9_takeBack_17 : decode cX9_takeBack 17 = .ok (.ireturn, 1) := by decide +kernel
theorem dX9_takeBack_18 : decode cX9_takeBack 18 = .ok (.aload_n 0, 1) := by decide +kernel
theorem dX9_takeBack_19 : decode cX9_takeBack 19 = .ok (.invokevirtual 345, 3) := by decide +kernel
theorem dX9_takeBack_22 : decode cX9_takeBack 22 = .ok (.aload_n 0, 1) := by decide +kernel
theorem dX9_takeBack_23 : decode cX9_takeBack 23 = .ok (.iload_n 1, 1) := by decide +kernel
theorem dX9_takeBack_24 : decode cX9_takeBack 24 = .ok (.invokevirtual 357, 3) := by decide +kernel
theorem dX9_takeBack_27 : decode cX9_takeBack 27 = .ok (.iconst 1, 1) := by decide +kernel
theorem dX9_takeBack_28 : decode cX9_takeBack 28 = .ok (.ireturn, 1) := by decide +kernel
theorem dX9_ring_0 : decode cX9_ring 0 = .ok (.aload_n 0, 1) := by decide +kernel
theorem dX9_ring_1 : decode cX9_ring 1 = .ok (.invokevirtual 345, 3) := by decide +kernel
theorem dX9_ring_4 : decode cX9_ring 4 = .ok (.iconst 0, 1) := by decide +kernel
theorem dX9_ring_5 : decode cX9_ring 5 = .ok (.istore_n 1, 1) := by decide +kernel
theorem dX9_ring_6 : decode cX9_ring 6 = .ok (.iload_n 1, 1) := by decide +kernel
theorem dX9_ring_7 : decode cX9_ring 7 = .ok (.iconst 2, 1) := by decide +kernel
theorem dX9_ring_8 : decode cX9_ring 8 = .ok (.if_icmp .ge 32, 3) := by decide +kernel
theorem dX9_ring_11 : decode cX9_ring 11 = .ok (.aload_n 0, 1) := by decide +kernel
theorem dX9_ring_12 : decode cX9_ring 12 = .ok (.getfield 7, 3) := by decide +kernel
theorem dX9_ring_15 : decode cX9_ring 15 = .ok (.iconst 4, 1) := by decide +kernel
theorem dX9_ring_16 : decode cX9_ring 16 = .ok (.iload_n 1, 1) := by decide +kernel
theorem dX9_ring_17 : decode cX9_ring 17 = .ok (.iadd, 1) := by decide +kernel
theorem dX9_ring_18 : decode cX9_ring 18 = .ok (.iconst 0, 1) := by decide +kernel
theorem dX9_ring_19 : decode cX9_ring 19 = .ok (.aload_n 0, 1) := by decide +kernel
theorem dX9_ring_20 : decode cX9_ring 20 = .ok (.getfield 7, 3) := by decide +kernel
theorem dX9_ring_23 : decode cX9_ring 23 = .ok (.iconst 4, 1) := by decide +kernel
theorem dX9_ring_24 : decode cX9_ring 24 = .ok (.iload_n 1, 1) := by decide +kernel
theorem dX9_ring_25 : decode cX9_ring 25 = .ok (.iadd, 1) := by decide +kernel
theorem dX9_ring_26 : decode cX9_ring 26 = .ok (.iaload, 1) := by decide +kernel
theorem dX9_ring_27 : decode cX9_ring 27 = .ok (.bipush 20, 2) := by decide +kernel
theorem dX9_ring_29 : decode cX9_ring 29 = .ok (.isub, 1) := by decide +kernel
theorem dX9_ring_30 : decode cX9_ring 30 = .ok (.invokestatic 69, 3) := by decide +kernel
theorem dX9_ring_33 : decode cX9_ring 33 = .ok (.iastore, 1) := by decide +kernel
theorem dX9_ring_34 : decode cX9_ring 34 = .ok (.iinc 1 1, 3) := by decide +kernel
theorem dX9_ring_37 : decode cX9_ring 37 = .ok (.goto (-31), 3) := by decide +kernel
theorem dX9_ring_40 : decode cX9_ring 40 = .ok (.iconst 0, 1) := by decide +kernel
theorem dX9_ring_41 : decode cX9_ring 41 = .ok (.istore_n 1, 1) := by decide +kernel
theorem dX9_ring_42 : decode cX9_ring 42 = .ok (.iload_n 1, 1) := by decide +kernel
theorem dX9_ring_43 : decode cX9_ring 43 = .ok (.aload_n 0, 1) := by decide +kernel
theorem dX9_ring_44 : decode cX9_ring 44 = .ok (.getfield 7, 3) := by decide +kernel
theorem dX9_ring_47 : decode cX9_ring 47 = .ok (.iconst 3, 1) := by decide +kernel
theorem dX9_ring_48 : decode cX9_ring 48 = .ok (.iaload, 1) := by decide +kernel
theorem dX9_ring_49 : decode cX9_ring 49 = .ok (.if_icmp .ge 17, 3) := by decide +kernel
