theorem dX0_init_0 : decode cX0_init 0 = .ok (.aload_n 0, 1) := by decide +kernel
theorem dX0_init_1 : decode cX0_init 1 = .ok (.invokespecial 3, 3) := by decide +kernel
theorem dX0_init_4 : decode cX0_init 4 = .ok (.aload_n 0, 1) := by decide +kernel
theorem dX0_init_5 : decode cX0_init 5 = .ok (.aload_n 1, 1) := by decide +kernel
theorem dX0_init_6 : decode cX0_init 6 = .ok (.putfield 9, 3) := by decide +kernel
theorem dX0_init_9 : decode cX0_init 9 = .ok (.aload_n 0, 1) := by decide +kernel
theorem dX0_init_10 : decode cX0_init 10 = .ok (.aload_n 2, 1) := by decide +kernel
theorem dX0_init_11 : decode cX0_init 11 = .ok (.putfield 15, 3) := by decide +kernel
theorem dX0_init_14 : decode cX0_init 14 = .ok (.aload_n 0, 1) := by decide +kernel
theorem dX0_init_15 : decode cX0_init 15 = .ok (.aload_n 1, 1) := by decide +kernel
theorem dX0_init_16 : decode cX0_init 16 = .ok (.getfield 19, 3) := by decide +kernel
theorem dX0_init_19 : decode cX0_init 19 = .ok (.putfield 25, 3) := by decide +kernel
theorem dX0_init_22 : decode cX0_init 22 = .ok (.aload_n 0, 1) := by decide +kernel
theorem dX0_init_23 : decode cX0_init 23 = .ok (.iconst (-1), 1) := by decide +kernel
theorem dX0_init_24 : decode cX0_init 24 = .ok (.putfield 26, 3) := by decide +kernel
theorem dX0_init_27 : decode cX0_init 27 = .ok (.return_, 1) := by decide +kernel
theorem dX0_begin_0 : decode cX0_begin 0 = .ok (.aload_n 0, 1) := by decide +kernel
theorem dX0_begin_1 : decode cX0_begin 1 = .ok (.aload_n 1, 1) := by decide +kernel
theorem dX0_begin_2 : decode cX0_begin 2 = .ok (.putfield 25, 3) := by decide +kernel
theorem dX0_begin_5 : decode cX0_begin 5 = .ok (.aload_n 0, 1) := by decide +kernel
theorem dX0_begin_6 : decode cX0_begin 6 = .ok (.iload_n 2, 1) := by decide +kernel
theorem dX0_begin_7 : decode cX0_begin 7 = .ok (.putfield 30, 3) := by decide +kernel
theorem dX0_begin_10 : decode cX0_begin 10 = .ok (.aload_n 0, 1) := by decide +kernel
theorem dX0_begin_11 : decode cX0_begin 11 = .ok (.iconst (-1), 1) := by decide +kernel
theorem dX0_begin_12 : decode cX0_begin 12 = .ok (.putfield 26, 3) := by decide +kernel
theorem dX0_begin_15 : decode cX0_begin 15 = .ok (.return_, 1) := by decide +kernel
theorem dX0_keepPace_0 : decode cX0_keepPace 0 = .ok (.aload_n 0, 1) := by decide +kernel
theorem dX0_keepPace_1 : decode cX0_keepPace 1 = .ok (.iload_n 1, 1) := by decide +kernel
theorem dX0_keepPace_2 : decode cX0_keepPace 2 = .ok (.putfield 26, 3) := by decide +kernel
theorem dX0_keepPace_5 : decode cX0_keepPace 5 = .ok (.aload_n 0, 1) := by decide +kernel
theorem dX0_keepPace_6 : decode cX0_keepPace 6 = .ok (.iload_n 2, 1) := by decide +kernel
theorem dX0_keepPace_7 : decode cX0_keepPace 7 = .ok (.putfield 34, 3) := by decide +kernel
theorem dX0_keepPace_10 : decode cX0_keepPace 10 = .ok (.return_, 1) := by decide +kernel
theorem dX0_go_0 : decode cX0_go 0 = .ok (.aload_n 0, 1) := by decide +kernel
theorem dX0_go_1 : decode cX0_go 1 = .ok (.getfield 25, 3) := by decide +kernel
theorem dX0_go_4 : decode cX0_go 4 = .ok (.getfield 37, 3) := by decide +kernel
theorem dX0_go_7 : decode cX0_go 7 = .ok (.iload_n 1, 1) := by decide +kernel
theorem dX0_go_8 : decode cX0_go 8 = .ok (.iadd, 1) := by decide +kernel
theorem dX0_go_9 : decode cX0_go 9 = .ok (.istore_n 2, 1) := by decide +kernel
theorem dX0_go_10 : decode cX0_go 10 = .ok (.iconst 0, 1) := by decide +kernel
theorem dX0_go_11 : decode cX0_go 11 = .ok (.istore_n 3, 1) := by decide +kernel
theorem dX0_go_12 : decode cX0_go 12 = .ok (.iload_n 3, 1) := by decide +kernel
theorem dX0_go_13 : decode cX0_go 13 = .ok (.iload_n 1, 1) := by decide +kernel
theorem dX0_go_14 : decode cX0_go 14 = .ok (.if_icmp .ge 41, 3) := by decide +kernel
theorem dX0_go_17 : decode cX0_go 17 = .ok (.aload_n 0, 1) := by decide +kernel
theorem dX0_go_18 : decode cX0_go 18 = .ok (.getfield 25, 3) := by decide +kernel
theorem dX0_go_21 : decode cX0_go 21 = .ok (.getfield 37, 3) := by decide +kernel
theorem dX0_go_24 : decode cX0_go 24 = .ok (.iload_n 2, 1) := by decide +kernel
theorem dX0_go_25 : decode cX0_go 25 = .ok (.if_icmp .ge 30, 3) := by decide +kernel
theorem dX0_go_28 : decode cX0_go 28 = .ok (.aload_n 0, 1) := by decide +kernel
theorem dX0_go_29 : decode cX0_go 29 = .ok (.getfield 25, 3) := by decide +kernel
theorem dX0_go_32 : decode cX0_go 32 = .ok (.iload_n 2, 1) := by decide +kernel
theorem dX0_go_33 : decode cX0_go 33 = .ok (.iconst 1, 1) := by decide +kernel
theorem dX0_go_34 : decode cX0_go 34 = .ok (.isub, 1) := by decide +kernel
theorem dX0_go_35 : decode cX0_go 35 = .ok (.aload_n 0, 1) := by decide +kernel
theorem dX0_go_36 : decode cX0_go 36 = .ok (.invokevirtual 42, 3) := by decide +kernel
theorem dX0_go_39 : decode cX0_go 39 = .ok (.invokestatic 46, 3) := by decide +kernel
theorem dX0_go_42 : decode cX0_go 42 = .ok (.putfield 37, 3) := by decide +kernel
theorem dX0_go_45 : decode cX0_go 45 = .ok (.aload_n 0, 1) := by decide +kernel
theorem dX0_go_46 : decode cX0_go 46 = .ok (.invokevirtual 52, 3) := by decide +kernel
theorem dX0_go_49 : decode cX0_go 49 = .ok (.iinc 3 1, 3) := by decide +kernel
theorem dX0_go_52 : decode cX0_go 52 = .ok (.goto (-40), 3) := by decide +kernel
theorem dX0_go_55 : decode cX0_go 55 = .ok (.return_, 1) := by decide +kernel
theorem dX0_quietUntil_0 : decode cX0_quietUntil 0 = .ok (.aload_n 0, 1) := by decide +kernel
theorem dX0_quietUntil_1 : decode cX0_quietUntil 1 = .ok (.getfield 25, 3) := by decide +kernel
theorem dX0_quietUntil_4 : decode cX0_quietUntil 4 = .ok (.getfield 37, 3) := by decide +kernel
theorem dX0_quietUntil_7 : decode cX0_quietUntil 7 = .ok (.istore_n 1, 1) := by decide +kernel
theorem dX0_quietUntil_8 : decode cX0_quietUntil 8 = .ok (.iload_n 1, 1) := by decide +kernel
theorem dX0_quietUntil_9 : decode cX0_quietUntil 9 = .ok (.sipush 1679, 3) := by decide +kernel
theorem dX0_quietUntil_12 : decode cX0_quietUntil 12 = .ok (.iload_n 1, 1) := by decide +kernel
theorem dX0_quietUntil_13 : decode cX0_quietUntil 13 = .ok (.sipush 1440, 3) := by decide +kernel
theorem dX0_quietUntil_16 : decode cX0_quietUntil 16 = .ok (.irem, 1) := by decide +kernel
theorem dX0_quietUntil_17 : decode cX0_quietUntil 17 = .ok (.isub, 1) := by decide +kernel
theorem dX0_quietUntil_18 : decode cX0_quietUntil 18 = .ok (.sipush 1440, 3) := by decide +kernel
theorem dX0_quietUntil_21 : decode cX0_quietUntil 21 = .ok (.irem, 1) := by decide +kernel
theorem dX0_quietUntil_22 : decode cX0_quietUntil 22 = .ok (.iadd, 1) := by decide +kernel
theorem dX0_quietUntil_23 : decode cX0_quietUntil 23 = .ok (.istore_n 2, 1) := by decide +kernel
theorem dX0_quietUntil_24 : decode cX0_quietUntil 24 = .ok (.aload_n 0, 1) := by decide +kernel
theorem dX0_quietUntil_25 : decode cX0_quietUntil 25 = .ok (.getfield 25, 3) := by decide +kernel
theorem dX0_quietUntil_28 : decode cX0_quietUntil 28 = .ok (.getfield 55, 3) := by decide +kernel
theorem dX0_quietUntil_31 : decode cX0_quietUntil 31 = .ok (.ifCond .le 26, 3) := by decide +kernel
theorem dX0_quietUntil_34 : decode cX0_quietUntil 34 = .ok (.aload_n 0, 1) := by decide +kernel
theorem dX0_quietUntil_35 : decode cX0_quietUntil 35 = .ok (.invokevirtual 58, 3) := by decide +kernel
theorem dX0_quietUntil_38 : decode cX0_quietUntil 38 = .ok (.ifCond .eq 5, 3) := by decide +kernel
theorem dX0_quietUntil_41 : decode cX0_quietUntil 41 = .ok (.iload_n 1, 1) := by decide +kernel
theorem dX0_quietUntil_42 : decode cX0_quietUntil 42 = .ok (.ireturn, 1) := by decide +kernel
theorem dX0_quietUntil_43 : decode cX0_quietUntil 43 = .ok (.iload_n 2, 1) := by decide +kernel
theorem dX0_quietUntil_44 : decode cX0_quietUntil 44 = .ok (.iload_n 1, 1) := by decide +kernel
theorem dX0_quietUntil_45 : decode cX0_quietUntil 45 = .ok (.iload_n 1, 1) := by decide +kernel
theorem dX0_quietUntil_46 : decode cX0_quietUntil 46 = .ok (.bipush 60, 2) := by decide +kernel
theorem dX0_quietUntil_48 : decode cX0_quietUntil 48 = .ok (.irem, 1) := by decide +kernel
theorem dX0_quietUntil_49 : decode cX0_quietUntil 49 = .ok (.isub, 1) := by decide +kernel
theorem dX0_quietUntil_50 : decode cX0_quietUntil 50 = .ok (.bipush 60, 2) := by decide +kernel
theorem dX0_quietUntil_52 : decode cX0_quietUntil 52 = .ok (.iadd, 1) := by decide +kernel
theorem dX0_quietUntil_53 : decode cX0_quietUntil 53 = .ok (.invokestatic 46, 3) := by decide +kernel
theorem dX0_quietUntil_56 : decode cX0_quietUntil 56 = .ok (.istore_n 2, 1) := by decide +kernel
theorem dX0_quietUntil_57 : decode cX0_quietUntil 57 = .ok (.aload_n 0, 1) := by decide +kernel
theorem dX0_quietUntil_58 : decode cX0_quietUntil 58 = .ok (.getfield 9, 3) := by decide +kernel
theorem dX0_quietUntil_61 : decode cX0_quietUntil 61 = .ok (.getfield 62, 3) := by decide +kernel
theorem dX0_quietUntil_64 : decode cX0_quietUntil 64 = .ok (.iconst 2, 1) := by decide +kernel
theorem dX0_quietUntil_65 : decode cX0_quietUntil 65 = .ok (.aaload, 1) := by decide +kernel
theorem dX0_quietUntil_66 : decode cX0_quietUntil 66 = .ok (.astore_n 3, 1) := by decide +kernel
theorem dX0_quietUntil_67 : decode cX0_quietUntil 67 = .ok (.iconst 0, 1) := by decide +kernel
theorem dX0_quietUntil_68 : decode cX0_quietUntil 68 = .ok (.istore 4, 2) := by decide +kernel
theorem dX0_quietUntil_70 : decode cX0_quietUntil 70 = .ok (.iload 4, 2) := by decide +kernel
theorem dX0_quietUntil_72 : decode cX0_quietUntil 72 = .ok (.aload_n 3, 1) := by decide +kernel
theorem dX0_quietUntil_73 : decode cX0_quietUntil 73 = .ok (.getfield 66, 3) := by decide +kernel
theorem dX0_quietUntil_76 : decode cX0_quietUntil 76 = .ok (.if_icmp .ge 35, 3) := by decide +kernel
theorem dX0_quietUntil_79 : decode cX0_quietUntil 79 = .ok (.aload_n 3, 1) := by decide +kernel
theorem dX0_quietUntil_80 : decode cX0_quietUntil 80 = .ok (.iload 4, 2) := by decide +kernel
theorem dX0_quietUntil_82 : decode cX0_quietUntil 82 = .ok (.iconst 0, 1) := by decide +kernel
theorem dX0_quietUntil_83 : decode cX0_quietUntil 83 = .ok (.invokevirtual 71, 3) := by decide +kernel
theorem dX0_quietUntil_86 : decode cX0_quietUntil 86 = .ok (.istore 5, 2) := by decide +kernel
theorem dX0_quietUntil_88 : decode cX0_quietUntil 88 = .ok (.iload 5, 2) := by decide +kernel
theorem dX0_quietUntil_90 : decode cX0_quietUntil 90 = .ok (.iload_n 1, 1) := by decide +kernel
theorem dX0_quietUntil_91 : decode cX0_quietUntil 91 = .ok (.if_icmp .lt 12, 3) := by decide +kernel
theorem dX0_quietUntil_94 : decode cX0_quietUntil 94 = .ok (.iload_n 2, 1) := by decide +kernel
theorem dX0_quietUntil_95 : decode cX0_quietUntil 95 = .ok (.iload 5, 2) := by decide +kernel
theorem dX0_quietUntil_97 : decode cX0_quietUntil 97 = .ok (.invokestatic 46, 3) := by decide +kernel
theorem dX0_quietUntil_100 : decode cX0_quietUntil 100 = .ok (.goto 4, 3) := by decide +kernel
theorem dX0_quietUntil_103 : decode cX0_quietUntil 103 = .ok (.iload_n 2, 1) := by decide +kernel
theorem dX0_quietUntil_104 : decode cX0_quietUntil 104 = .ok (.istore_n 2, 1) := by decide +kernel
theorem dX0_quietUntil_105 : decode cX0_quietUntil 105 = .ok (.iinc 4 1, 3) := by decide +kernel
theorem dX0_quietUntil_108 : decode cX0_quietUntil 108 = .ok (.goto (-38), 3) := by decide +kernel
theorem dX0_quietUntil_111 : decode cX0_quietUntil 111 = .ok (.iconst 0, 1) := by decide +kernel
theorem dX0_quietUntil_112 : decode cX0_quietUntil 112 = .ok (.istore 4, 2) := by decide +kernel
theorem dX0_quietUntil_114 : decode cX0_quietUntil 114 = .ok (.iload 4, 2) := by decide +kernel
theorem dX0_quietUntil_116 : decode cX0_quietUntil 116 = .ok (.aload_n 0, 1) := by decide +kernel
theorem dX0_quietUntil_117 : decode cX0_quietUntil 117 = .ok (.getfield 25, 3) := by decide +kernel
theorem dX0_quietUntil_120 : decode cX0_quietUntil 120 = .ok (.getfield 74, 3) := by decide +kernel
theorem dX0_quietUntil_123 : decode cX0_quietUntil 123 = .ok (.if_icmp .ge 52, 3) := by decide +kernel
theorem dX0_quietUntil_126 : decode cX0_quietUntil 126 = .ok (.aload_n 0, 1) := by decide +kernel
theorem dX0_quietUntil_127 : decode cX0_quietUntil 127 = .ok (.getfield 25, 3) := by decide +kernel
theorem dX0_quietUntil_130 : decode cX0_quietUntil 130 = .ok (.getfield 77, 3) := by decide +kernel
theorem dX0_quietUntil_133 : decode cX0_quietUntil 133 = .ok (.ifCond .le 42, 3) := by decide +kernel
theorem dX0_quietUntil_136 : decode cX0_quietUntil 136 = .ok (.aload_n 0, 1) := by decide +kernel
theorem dX0_quietUntil_137 : decode cX0_quietUntil 137 = .ok (.getfield 25, 3) := by decide +kernel
theorem dX0_quietUntil_140 : decode cX0_quietUntil 140 = .ok (.getfield 80, 3) := by decide +kernel
theorem dX0_quietUntil_143 : decode cX0_quietUntil 143 = .ok (.iload 4, 2) := by decide +kernel
theorem dX0_quietUntil_145 : decode cX0_quietUntil 145 = .ok (.iaload, 1) := by decide +kernel
theorem dX0_quietUntil_146 : decode cX0_quietUntil 146 = .ok (.iload_n 1, 1) := by decide +kernel
theorem dX0_quietUntil_147 : decode cX0_quietUntil 147 = .ok (.if_icmp .lt 20, 3) := by decide +kernel
theorem dX0_quietUntil_150 : decode cX0_quietUntil 150 = .ok (.iload_n 2, 1) := by decide +kernel
theorem dX0_quietUntil_151 : decode cX0_quietUntil 151 = .ok (.aload_n 0, 1) := by decide +kernel
theorem dX0_quietUntil_152 : decode cX0_quietUntil 152 = .ok (.getfield 25, 3) := by decide +kernel
theorem dX0_quietUntil_155 : decode cX0_quietUntil 155 = .ok (.getfield 80, 3) := by decide +kernel
theorem dX0_quietUntil_158 : decode cX0_quietUntil 158 = .ok (.iload 4, 2) := by decide +kernel
theorem dX0_quietUntil_160 : decode cX0_quietUntil 160 = .ok (.iaload, 1) := by decide +kernel
theorem dX0_quietUntil_161 : decode cX0_quietUntil 161 = .ok (.invokestatic 46, 3) := by decide +kernel
theorem dX0_quietUntil_164 : decode cX0_quietUntil 164 = .ok (.goto 4, 3) := by decide +kernel
theorem dX0_quietUntil_167 : decode cX0_quietUntil 167 = .ok (.iload_n 2, 1) := by decide +kernel
theorem dX0_quietUntil_168 : decode cX0_quietUntil 168 = .ok (.istore_n 2, 1) := by decide +kernel
theorem dX0_quietUntil_169 : decode cX0_quietUntil 169 = .ok (.iinc 4 1, 3) := by decide +kernel
theorem dX0_quietUntil_172 : decode cX0_quietUntil 172 = .ok (.goto (-58), 3) := by decide +kernel
theorem dX0_quietUntil_175 : decode cX0_quietUntil 175 = .ok (.iload_n 2, 1) := by decide +kernel
theorem dX0_quietUntil_176 : decode cX0_quietUntil 176 = .ok (.ireturn, 1) := by decide +kernel
theorem dX0_someoneCanRead_0 : decode cX0_someoneCanRead 0 = .ok (.aload_n 0, 1) := by decide +kernel
theorem dX0_someoneCanRead_1 : decode cX0_someoneCanRead 1 = .ok (.getfield 9, 3) := by decide +kernel
theorem dX0_someoneCanRead_4 : decode cX0_someoneCanRead 4 = .ok (.iconst 0, 1) := by decide +kernel
theorem dX0_someoneCanRead_5 : decode cX0_someoneCanRead 5 = .ok (.aload_n 0, 1) := by decide +kernel
theorem dX0_someoneCanRead_6 : decode cX0_someoneCanRead 6 = .ok (.getfield 25, 3) := by decide +kernel
theorem dX0_someoneCanRead_9 : decode cX0_someoneCanRead 9 = .ok (.invokevirtual 84, 3) := by decide +kernel
theorem dX0_someoneCanRead_12 : decode cX0_someoneCanRead 12 = .ok (.invokevirtual 87, 3) := by decide +kernel
theorem dX0_someoneCanRead_15 : decode cX0_someoneCanRead 15 = .ok (.istore_n 1, 1) := by decide +kernel
theorem dX0_someoneCanRead_16 : decode cX0_someoneCanRead 16 = .ok (.aload_n 0, 1) := by decide +kernel
theorem dX0_someoneCanRead_17 : decode cX0_someoneCanRead 17 = .ok (.getfield 9, 3) := by decide +kernel
theorem dX0_someoneCanRead_20 : decode cX0_someoneCanRead 20 = .ok (.iconst 1, 1) := by decide +kernel
theorem dX0_someoneCanRead_21 : decode cX0_someoneCanRead 21 = .ok (.aload_n 0, 1) := by decide +kernel
theorem dX0_someoneCanRead_22 : decode cX0_someoneCanRead 22 = .ok (.getfield 25, 3) := by decide +kernel
theorem dX0_someoneCanRead_25 : decode cX0_someoneCanRead 25 = .ok (.invokevirtual 84, 3) := by decide +kernel
theorem dX0_someoneCanRead_28 : decode cX0_someoneCanRead 28 = .ok (.invokevirtual 87, 3) := by decide +kernel
theorem dX0_someoneCanRead_31 : decode cX0_someoneCanRead 31 = .ok (.istore_n 2, 1) := by decide +kernel
theorem dX0_someoneCanRead_32 : decode cX0_someoneCanRead 32 = .ok (.iconst 0, 1) := by decide +kernel
theorem dX0_someoneCanRead_33 : decode cX0_someoneCanRead 33 = .ok (.istore_n 3, 1) := by decide +kernel
theorem dX0_someoneCanRead_34 : decode cX0_someoneCanRead 34 = .ok (.iload_n 3, 1) := by decide +kernel
theorem dX0_someoneCanRead_35 : decode cX0_someoneCanRead 35 = .ok (.aload_n 0, 1) := by decide +kernel
theorem dX0_someoneCanRead_36 : decode cX0_someoneCanRead 36 = .ok (.getfield 25, 3) := by decide +kernel
theorem dX0_someoneCanRead_39 : decode cX0_someoneCanRead 39 = .ok (.getfield 74, 3) := by decide +kernel
theorem dX0_someoneCanRead_42 : decode cX0_someoneCanRead 42 = .ok (.if_icmp .ge 54, 3) := by decide +kernel
theorem dX0_someoneCanRead_45 : decode cX0_someoneCanRead 45 = .ok (.iload_n 1, 1) := by decide +kernel
theorem dX0_someoneCanRead_46 : decode cX0_someoneCanRead 46 = .ok (.ifCond .ne 7, 3) := by decide +kernel
theorem dX0_someoneCanRead_49 : decode cX0_someoneCanRead 49 = .ok (.iload_n 2, 1) := by decide +kernel
theorem dX0_someoneCanRead_50 : decode cX0_someoneCanRead 50 = .ok (.ifCond .eq 46, 3) := by decide +kernel
theorem dX0_someoneCanRead_53 : decode cX0_someoneCanRead 53 = .ok (.aload_n 0, 1) := by decide +kernel
theorem dX0_someoneCanRead_54 : decode cX0_someoneCanRead 54 = .ok (.getfield 25, 3) := by decide +kernel
theorem dX0_someoneCanRead_57 : decode cX0_someoneCanRead 57 = .ok (.iload_n 3, 1) := by decide +kernel
theorem dX0_someoneCanRead_58 : decode cX0_someoneCanRead 58 = .ok (.invokevirtual 91, 3) := by decide +kernel
theorem dX0_someoneCanRead_61 : decode cX0_someoneCanRead 61 = .ok (.ifCond .eq 29, 3) := by decide +kernel
theorem dX0_someoneCanRead_64 : decode cX0_someoneCanRead 64 = .ok (.aload_n 0, 1) := by decide +kernel
theorem dX0_someoneCanRead_65 : decode cX0_someoneCanRead 65 = .ok (.getfield 25, 3) := by decide +kernel
theorem dX0_someoneCanRead_68 : decode cX0_someoneCanRead 68 = .ok (.getfield 95, 3) := by decide +kernel
theorem dX0_someoneCanRead_71 : decode cX0_someoneCanRead 71 = .ok (.iload_n 3, 1) := by decide +kernel
theorem dX0_someoneCanRead_72 : decode cX0_someoneCanRead 72 = .ok (.iaload, 1) := by decide +kernel
theorem dX0_someoneCanRead_73 : decode cX0_someoneCanRead 73 = .ok (.iconst 1, 1) := by decide +kernel
theorem dX0_someoneCanRead_74 : decode cX0_someoneCanRead 74 = .ok (.if_icmp .ne 10, 3) := by decide +kernel
theorem dX0_someoneCanRead_77 : decode cX0_someoneCanRead 77 = .ok (.iload_n 1, 1) := by decide +kernel
theorem dX0_someoneCanRead_78 : decode cX0_someoneCanRead 78 = .ok (.ifCond .eq 12, 3) := by decide +kernel
theorem dX0_someoneCanRead_81 : decode cX0_someoneCanRead 81 = .ok (.goto 7, 3) := by decide +kernel
theorem dX0_someoneCanRead_84 : decode cX0_someoneCanRead 84 = .ok (.iload_n 2, 1) := by decide +kernel
theorem dX0_someoneCanRead_85 : decode cX0_someoneCanRead 85 = .ok (.ifCond .eq 5, 3) := by decide +kernel
theorem dX0_someoneCanRead_88 : decode cX0_someoneCanRead 88 = .ok (.iconst 1, 1) := by decide +kernel
theorem dX0_someoneCanRead_89 : decode cX0_someoneCanRead 89 = .ok (.ireturn, 1) := by decide +kernel
theorem dX0_someoneCanRead_90 : decode cX0_someoneCanRead 90 = .ok (.iinc 3 1, 3) := by decide +kernel
theorem dX0_someoneCanRead_93 : decode cX0_someoneCanRead 93 = .ok (.goto (-59), 3) := by decide +kernel
theorem dX0_someoneCanRead_96 : decode cX0_someoneCanRead 96 = .ok (.iconst 0, 1) := by decide +kernel
theorem dX0_someoneCanRead_97 : decode cX0_someoneCanRead 97 = .ok (.ireturn, 1) := by decide +kernel
theorem dX0_pass_0 : decode cX0_pass 0 = .ok (.aload_n 0, 1) := by decide +kernel
theorem dX0_pass_1 : decode cX0_pass 1 = .ok (.invokevirtual 98, 3) := by decide +kernel
theorem dX0_pass_4 : decode cX0_pass 4 = .ok (.aload_n 0, 1) := by decide +kernel
theorem dX0_pass_5 : decode cX0_pass 5 = .ok (.getfield 25, 3) := by decide +kernel
theorem dX0_pass_8 : decode cX0_pass 8 = .ok (.getfield 55, 3) := by decide +kernel
theorem dX0_pass_11 : decode cX0_pass 11 = .ok (.ifCond .le 7, 3) := by decide +kernel
theorem dX0_pass_14 : decode cX0_pass 14 = .ok (.aload_n 0, 1) := by decide +kernel
theorem dX0_pass_15 : decode cX0_pass 15 = .ok (.invokevirtual 101, 3) := by decide +kernel
theorem dX0_pass_18 : decode cX0_pass 18 = .ok (.aload_n 0, 1) := by decide +kernel
theorem dX0_pass_19 : decode cX0_pass 19 = .ok (.getfield 25, 3) := by decide +kernel
theorem dX0_pass_22 : decode cX0_pass 22 = .ok (.getfield 77, 3) := by decide +kernel
theorem dX0_pass_25 : decode cX0_pass 25 = .ok (.ifCond .le 7, 3) := by decide +kernel
theorem dX0_pass_28 : decode cX0_pass 28 = .ok (.aload_n 0, 1) := by decide +kernel
theorem dX0_pass_29 : decode cX0_pass 29 = .ok (.invokevirtual 104, 3) := by decide +kernel
theorem dX0_pass_32 : decode cX0_pass 32 = .ok (.aload_n 0, 1) := by decide +kernel
theorem dX0_pass_33 : decode cX0_pass 33 = .ok (.getfield 25, 3) := by decide +kernel
theorem dX0_pass_36 : decode cX0_pass 36 = .ok (.dup, 1) := by decide +kernel
theorem dX0_pass_37 : decode cX0_pass 37 = .ok (.getfield 37, 3) := by decide +kernel
theorem dX0_pass_40 : decode cX0_pass 40 = .ok (.iconst 1, 1) := by decide +kernel
theorem dX0_pass_41 : decode cX0_pass 41 = .ok (.iadd, 1) := by decide +kernel
theorem dX0_pass_42 : decode cX0_pass 42 = .ok (.putfield 37, 3) := by decide +kernel
theorem dX0_pass_45 : decode cX0_pass 45 = .ok (.aload_n 0, 1) := by decide +kernel
theorem dX0_pass_46 : decode cX0_pass 46 = .ok (.getfield 25, 3) := by decide +kernel
theorem dX0_pass_49 : decode cX0_pass 49 = .ok (.getfield 37, 3) := by decide +kernel
theorem dX0_pass_52 : decode cX0_pass 52 = .ok (.sipush 1440, 3) := by decide +kernel
theorem dX0_pass_55 : decode cX0_pass 55 = .ok (.irem, 1) := by decide +kernel
theorem dX0_pass_56 : decode cX0_pass 56 = .ok (.sipush 240, 3) := by decide +kernel
theorem dX0_pass_59 : decode cX0_pass 59 = .ok (.if_icmp .ne 51, 3) := by decide +kernel
theorem dX0_pass_62 : decode cX0_pass 62 = .ok (.aload_n 0, 1) := by decide +kernel
theorem dX0_pass_63 : decode cX0_pass 63 = .ok (.getfield 25, 3) := by decide +kernel
theorem dX0_pass_66 : decode cX0_pass 66 = .ok (.getfield 107, 3) := by decide +kernel
theorem dX0_pass_69 : decode cX0_pass 69 = .ok (.iconst 0, 1) := by decide +kernel
theorem dX0_pass_70 : decode cX0_pass 70 = .ok (.dup2, 1) := by decide +kernel
theorem dX0_pass_71 : decode cX0_pass 71 = .ok (.iaload, 1) := by decide +kernel
theorem dX0_pass_72 : decode cX0_pass 72 = .ok (.aload_n 0, 1) := by decide +kernel
theorem dX0_pass_73 : decode cX0_pass 73 = .ok (.getfield 25, 3) := by decide +kernel
theorem dX0_pass_76 : decode cX0_pass 76 = .ok (.getfield 107, 3) := by decide +kernel
theorem dX0_pass_79 : decode cX0_pass 79 = .ok (.iconst 0, 1) := by decide +kernel
theorem dX0_pass_80 : decode cX0_pass 80 = .ok (.iaload, 1) := by decide +kernel
theorem dX0_pass_81 : decode cX0_pass 81 = .ok (.bipush 10, 2) := by decide +kernel
theorem dX0_pass_83 : decode cX0_pass 83 = .ok (.idiv, 1) := by decide +kernel
theorem dX0_pass_84 : decode cX0_pass 84 = .ok (.isub, 1) := by decide +kernel
theorem dX0_pass_85 : decode cX0_pass 85 = .ok (.iastore, 1) := by decide +kernel
theorem dX0_pass_86 : decode cX0_pass 86 = .ok (.aload_n 0, 1) := by decide +kernel
theorem dX0_pass_87 : decode cX0_pass 87 = .ok (.getfield 25, 3) := by decide +kernel
theorem dX0_pass_90 : decode cX0_pass 90 = .ok (.getfield 107, 3) := by decide +kernel
theorem dX0_pass_93 : decode cX0_pass 93 = .ok (.iconst 1, 1) := by decide +kernel
theorem dX0_pass_94 : decode cX0_pass 94 = .ok (.dup2, 1) := by decide +kernel
theorem dX0_pass_95 : decode cX0_pass 95 = .ok (.iaload, 1) := by decide +kernel
theorem dX0_pass_96 : decode cX0_pass 96 = .ok (.aload_n 0, 1) := by decide +kernel
theorem dX0_pass_97 : decode cX0_pass 97 = .ok (.getfield 25, 3) := by decide +kernel
theorem dX0_pass_100 : decode cX0_pass 100 = .ok (.getfield 107, 3) := by decide +kernel
theorem dX0_pass_103 : decode cX0_pass 103 = .ok (.iconst 1, 1) := by decide +kernel
theorem dX0_pass_104 : decode cX0_pass 104 = .ok (.iaload, 1) := by decide +kernel
theorem dX0_pass_105 : decode cX0_pass 105 = .ok (.bipush 10, 2) := by decide +kernel
theorem dX0_pass_107 : decode cX0_pass 107 = .ok (.idiv, 1) := by decide +kernel
theorem dX0_pass_108 : decode cX0_pass 108 = .ok (.isub, 1) := by decide +kernel
theorem dX0_pass_109 : decode cX0_pass 109 = .ok (.iastore, 1) := by decide +kernel
theorem dX0_pass_110 : decode cX0_pass 110 = .ok (.return_, 1) := by decide +kernel
theorem dX0_utter_0 : decode cX0_utter 0 = .ok (.aload_n 0, 1) := by decide +kernel
theorem dX0_utter_1 : decode cX0_utter 1 = .ok (.getfield 25, 3) := by decide +kernel
theorem dX0_utter_4 : decode cX0_utter 4 = .ok (.iload_n 1, 1) := by decide +kernel
theorem dX0_utter_5 : decode cX0_utter 5 = .ok (.iload_n 2, 1) := by decide +kernel
theorem dX0_utter_6 : decode cX0_utter 6 = .ok (.iload_n 3, 1) := by decide +kernel
theorem dX0_utter_7 : decode cX0_utter 7 = .ok (.iload 4, 2) := by decide +kernel
theorem dX0_utter_9 : decode cX0_utter 9 = .ok (.iconst (-1), 1) := by decide +kernel
theorem dX0_utter_10 : decode cX0_utter 10 = .ok (.invokevirtual 110, 3) := by decide +kernel
theorem dX0_utter_13 : decode cX0_utter 13 = .ok (.istore 5, 2) := by decide +kernel
theorem dX0_utter_15 : decode cX0_utter 15 = .ok (.iload 5, 2) := by decide +kernel
theorem dX0_utter_17 : decode cX0_utter 17 = .ok (.iconst (-1), 1) := by decide +kernel
theorem dX0_utter_18 : decode cX0_utter 18 = .ok (.if_icmp .eq 11, 3) := by decide +kernel
theorem dX0_utter_21 : decode cX0_utter 21 = .ok (.aload_n 0, 1) := by decide +kernel
theorem dX0_utter_22 : decode cX0_utter 22 = .ok (.iconst 0, 1) := by decide +kernel
theorem dX0_utter_23 : decode cX0_utter 23 = .ok (.iload_n 1, 1) := by decide +kernel
theorem dX0_utter_24 : decode cX0_utter 24 = .ok (.iload 5, 2) := by decide +kernel
theorem dX0_utter_26 : decode cX0_utter 26 = .ok (.invokevirtual 114, 3) := by decide +kernel
theorem dX0_utter_29 : decode cX0_utter 29 = .ok (.iload 5, 2) := by decide +kernel
theorem dX0_utter_31 : decode cX0_utter 31 = .ok (.ireturn, 1) := by decide +kernel
theorem dX0_withdraw_0 : decode cX0_withdraw 0 = .ok (.aload_n 0, 1) := by decide +kernel
theorem dX0_withdraw_1 : decode cX0_withdraw 1 = .ok (.getfield 25, 3) := by decide +kernel
theorem dX0_withdraw_4 : decode cX0_withdraw 4 = .ok (.getfield 118, 3) := by decide +kernel
theorem dX0_withdraw_7 : decode cX0_withdraw 7 = .ok (.iload_n 1, 1) := by decide +kernel
theorem dX0_withdraw_8 : decode cX0_withdraw 8 = .ok (.iconst 1, 1) := by decide +kernel
theorem dX0_withdraw_9 : decode cX0_withdraw 9 = .ok (.iastore, 1) := by decide +kernel
theorem dX0_withdraw_10 : decode cX0_withdraw 10 = .ok (.aload_n 0, 1) := by decide +kernel
theorem dX0_withdraw_11 : decode cX0_withdraw 11 = .ok (.getfield 25, 3) := by decide +kernel
theorem dX0_withdraw_14 : decode cX0_withdraw 14 = .ok (.dup, 1) := by decide +kernel
theorem dX0_withdraw_15 : decode cX0_withdraw 15 = .ok (.getfield 55, 3) := by decide +kernel
theorem dX0_withdraw_18 : decode cX0_withdraw 18 = .ok (.iconst 1, 1) := by decide +kernel
theorem dX0_withdraw_19 : decode cX0_withdraw 19 = .ok (.isub, 1) := by decide +kernel
theorem dX0_withdraw_20 : decode cX0_withdraw 20 = .ok (.putfield 55, 3) := by decide +kernel
theorem dX0_withdraw_23 : decode cX0_withdraw 23 = .ok (.aload_n 0, 1) := by decide +kernel
theorem dX0_withdraw_24 : decode cX0_withdraw 24 = .ok (.iconst 3, 1) := by decide +kernel
theorem dX0_withdraw_25 : decode cX0_withdraw 25 = .ok (.aload_n 0, 1) := by decide +kernel
theorem dX0_withdraw_26 : decode cX0_withdraw 26 = .ok (.getfield 25, 3) := by decide +kernel
theorem dX0_withdraw_29 : decode cX0_withdraw 29 = .ok (.getfield 95, 3) := by decide +kernel
theorem dX0_withdraw_32 : decode cX0_withdraw 32 = .ok (.iload_n 1, 1) := by decide +kernel
theorem dX0_withdraw_33 : decode cX0_withdraw 33 = .ok (.iaload, 1) := by decide +kernel
theorem dX0_withdraw_34 : decode cX0_withdraw 34 = .ok (.iload_n 1, 1) := by decide +kernel
theorem dX0_withdraw_35 : decode cX0_withdraw 35 = .ok (.invokevirtual 114, 3) := by decide +kernel
theorem dX0_withdraw_38 : decode cX0_withdraw 38 = .ok (.return_, 1) := by decide +kernel
theorem dX0_withdrawSet_0 : decode cX0_withdrawSet 0 = .ok (.iload_n 2, 1) := by decide +kernel
theorem dX0_withdrawSet_1 : decode cX0_withdrawSet 1 = .ok (.istore_n 3, 1) := by decide +kernel
theorem dX0_withdrawSet_2 : decode cX0_withdrawSet 2 = .ok (.iconst 0, 1) := by decide +kernel
theorem dX0_withdrawSet_3 : decode cX0_withdrawSet 3 = .ok (.istore 4, 2) := by decide +kernel
theorem dX0_withdrawSet_5 : decode cX0_withdrawSet 5 = .ok (.iload 4, 2) := by decide +kernel
theorem dX0_withdrawSet_7 : decode cX0_withdrawSet 7 = .ok (.aload_n 0, 1) := by decide +kernel
theorem dX0_withdrawSet_8 : decode cX0_withdrawSet 8 = .ok (.getfield 25, 3) := by decide +kernel
theorem dX0_withdrawSet_11 : decode cX0_withdrawSet 11 = .ok (.getfield 74, 3) := by decide +kernel
theorem dX0_withdrawSet_14 : decode cX0_withdrawSet 14 = .ok (.if_icmp .ge 55, 3) := by decide +kernel
theorem dX0_withdrawSet_17 : decode cX0_withdrawSet 17 = .ok (.iload_n 3, 1) := by decide +kernel
theorem dX0_withdrawSet_18 : decode cX0_withdrawSet 18 = .ok (.ifCond .eq 51, 3) := by decide +kernel
theorem dX0_withdrawSet_21 : decode cX0_withdrawSet 21 = .ok (.aload_n 0, 1) := by decide +kernel
theorem dX0_withdrawSet_22 : decode cX0_withdrawSet 22 = .ok (.getfield 25, 3) := by decide +kernel
theorem dX0_withdrawSet_25 : decode cX0_withdrawSet 25 = .ok (.getfield 95, 3) := by decide +kernel
theorem dX0_withdrawSet_28 : decode cX0_withdrawSet 28 = .ok (.iload 4, 2) := by decide +kernel
theorem dX0_withdrawSet_30 : decode cX0_withdrawSet 30 = .ok (.iaload, 1) := by decide +kernel
theorem dX0_withdrawSet_31 : decode cX0_withdrawSet 31 = .ok (.iload_n 1, 1) := by decide +kernel
theorem dX0_withdrawSet_32 : decode cX0_withdrawSet 32 = .ok (.if_icmp .ne 31, 3) := by decide +kernel
theorem dX0_withdrawSet_35 : decode cX0_withdrawSet 35 = .ok (.aload_n 0, 1) := by decide +kernel
theorem dX0_withdrawSet_36 : decode cX0_withdrawSet 36 = .ok (.getfield 25, 3) := by decide +kernel
theorem dX0_withdrawSet_39 : decode cX0_withdrawSet 39 = .ok (.iload 4, 2) := by decide +kernel
theorem dX0_withdrawSet_41 : decode cX0_withdrawSet 41 = .ok (.invokevirtual 91, 3) := by decide +kernel
theorem dX0_withdrawSet_44 : decode cX0_withdrawSet 44 = .ok (.ifCond .eq 19, 3) := by decide +kernel
theorem dX0_withdrawSet_47 : decode cX0_withdrawSet 47 = .ok (.iload_n 3, 1) := by decide +kernel
theorem dX0_withdrawSet_48 : decode cX0_withdrawSet 48 = .ok (.iconst 1, 1) := by decide +kernel
theorem dX0_withdrawSet_49 : decode cX0_withdrawSet 49 = .ok (.iand, 1) := by decide +kernel
theorem dX0_withdrawSet_50 : decode cX0_withdrawSet 50 = .ok (.ifCond .eq 9, 3) := by decide +kernel
theorem dX0_withdrawSet_53 : decode cX0_withdrawSet 53 = .ok (.aload_n 0, 1) := by decide +kernel
theorem dX0_withdrawSet_54 : decode cX0_withdrawSet 54 = .ok (.iload 4, 2) := by decide +kernel
theorem dX0_withdrawSet_56 : decode cX0_withdrawSet 56 = .ok (.invokevirtual 121, 3) := by decide +kernel
theorem dX0_withdrawSet_59 : decode cX0_withdrawSet 59 = .ok (.iload_n 3, 1) := by decide +kernel
theorem dX0_withdrawSet_60 : decode cX0_withdrawSet 60 = .ok (.iconst 1, 1) := by decide +kernel
theorem dX0_withdrawSet_61 : decode cX0_withdrawSet 61 = .ok (.ishr, 1) := by decide +kernel
theorem dX0_withdrawSet_62 : decode cX0_withdrawSet 62 = .ok (.istore_n 3, 1) := by decide +kernel
theorem dX0_withdrawSet_63 : decode cX0_withdrawSet 63 = .ok (.iinc 4 1, 3) := by decide +kernel
theorem dX0_withdrawSet_66 : decode cX0_withdrawSet 66 = .ok (.goto (-61), 3) := by decide +kernel
theorem dX0_withdrawSet_69 : decode cX0_withdrawSet 69 = .ok (.return_, 1) := by decide +kernel
theorem dX0_ringUp_0 : decode cX0_ringUp 0 = .ok (.aload_n 0, 1) := by decide +kernel
theorem dX0_ringUp_1 : decode cX0_ringUp 1 = .ok (.getfield 25, 3) := by decide +kernel
theorem dX0_ringUp_4 : decode cX0_ringUp 4 = .ok (.getfield 107, 3) := by decide +kernel
theorem dX0_ringUp_7 : decode cX0_ringUp 7 = .ok (.iconst 0, 1) := by decide +kernel
theorem dX0_ringUp_8 : decode cX0_ringUp 8 = .ok (.iconst 0, 1) := by decide +kernel
theorem dX0_ringUp_9 : decode cX0_ringUp 9 = .ok (.aload_n 0, 1) := by decide +kernel
theorem dX0_ringUp_10 : decode cX0_ringUp 10 = .ok (.getfield 25, 3) := by decide +kernel
theorem dX0_ringUp_13 : decode cX0_ringUp 13 = .ok (.getfield 107, 3) := by decide +kernel
theorem dX0_ringUp_16 : decode cX0_ringUp 16 = .ok (.iconst 0, 1) := by decide +kernel
theorem dX0_ringUp_17 : decode cX0_ringUp 17 = .ok (.iaload, 1) := by decide +kernel
theorem dX0_ringUp_18 : decode cX0_ringUp 18 = .ok (.bipush 20, 2) := by decide +kernel
theorem dX0_ringUp_20 : decode cX0_ringUp 20 = .ok (.isub, 1) := by decide +kernel
theorem dX0_ringUp_21 : decode cX0_ringUp 21 = .ok (.invokestatic 125, 3) := by decide +kernel
theorem dX0_ringUp_24 : decode cX0_ringUp 24 = .ok (.iastore, 1) := by decide +kernel
theorem dX0_ringUp_25 : decode cX0_ringUp 25 = .ok (.aload_n 0, 1) := by decide +kernel
theorem dX0_ringUp_26 : decode cX0_ringUp 26 = .ok (.getfield 25, 3) := by decide +kernel
theorem dX0_ringUp_29 : decode cX0_ringUp 29 = .ok (.getfield 107, 3) := by decide +kernel
theorem dX0_ringUp_32 : decode cX0_ringUp 32 = .ok (.iconst 1, 1) := by decide +kernel
theorem dX0_ringUp_33 : decode cX0_ringUp 33 = .ok (.iconst 0, 1) := by decide +kernel
theorem dX0_ringUp_34 : decode cX0_ringUp 34 = .ok (.aload_n 0, 1) := by decide +kernel
theorem dX0_ringUp_35 : decode cX0_ringUp 35 = .ok (.getfield 25, 3) := by decide +kernel
theorem dX0_ringUp_38 : decode cX0_ringUp 38 = .ok (.getfield 107, 3) := by decide +kernel
theorem dX0_ringUp_41 : decode cX0_ringUp 41 = .ok (.iconst 1, 1) := by decide +kernel
theorem dX0_ringUp_42 : decode cX0_ringUp 42 = .ok (.iaload, 1) := by decide +kernel
theorem dX0_ringUp_43 : decode cX0_ringUp 43 = .ok (.bipush 20, 2) := by decide +kernel
theorem dX0_ringUp_45 : decode cX0_ringUp 45 = .ok (.isub, 1) := by decide +kernel
theorem dX0_ringUp_46 : decode cX0_ringUp 46 = .ok (.invokestatic 125, 3) := by decide +kernel
theorem dX0_ringUp_49 : decode cX0_ringUp 49 = .ok (.iastore, 1) := by decide +kernel
theorem dX0_ringUp_50 : decode cX0_ringUp 50 = .ok (.iconst 0, 1) := by decide +kernel
theorem dX0_ringUp_51 : decode cX0_ringUp 51 = .ok (.istore_n 1, 1) := by decide +kernel
theorem dX0_ringUp_52 : decode cX0_ringUp 52 = .ok (.iload_n 1, 1) := by decide +kernel
theorem dX0_ringUp_53 : decode cX0_ringUp 53 = .ok (.aload_n 0, 1) := by decide +kernel
theorem dX0_ringUp_54 : decode cX0_ringUp 54 = .ok (.getfield 25, 3) := by decide +kernel
theorem dX0_ringUp_57 : decode cX0_ringUp 57 = .ok (.getfield 74, 3) := by decide +kernel
theorem dX0_ringUp_60 : decode cX0_ringUp 60 = .ok (.if_icmp .ge 19, 3) := by decide +kernel
theorem dX0_ringUp_63 : decode cX0_ringUp 63 = .ok (.aload_n 0, 1) := by decide +kernel
theorem dX0_ringUp_64 : decode cX0_ringUp 64 = .ok (.getfield 25, 3) := by decide +kernel
theorem dX0_ringUp_67 : decode cX0_ringUp 67 = .ok (.getfield 80, 3) := by decide +kernel
theorem dX0_ringUp_70 : decode cX0_ringUp 70 = .ok (.iload_n 1, 1) := by decide +kernel
theorem dX0_ringUp_71 : decode cX0_ringUp 71 = .ok (.iconst (-1), 1) := by decide +kernel
theorem dX0_ringUp_72 : decode cX0_ringUp 72 = .ok (.iastore, 1) := by decide +kernel
theorem dX0_ringUp_73 : decode cX0_ringUp 73 = .ok (.iinc 1 1, 3) := by decide +kernel
theorem dX0_ringUp_76 : decode cX0_ringUp 76 = .ok (.goto (-24), 3) := by decide +kernel
theorem dX0_ringUp_79 : decode cX0_ringUp 79 = .ok (.aload_n 0, 1) := by decide +kernel
theorem dX0_ringUp_80 : decode cX0_ringUp 80 = .ok (.getfield 25, 3) := by decide +kernel
theorem dX0_ringUp_83 : decode cX0_ringUp 83 = .ok (.iconst 0, 1) := by decide +kernel
theorem dX0_ringUp_84 : decode cX0_ringUp 84 = .ok (.putfield 77, 3) := by decide +kernel
theorem dX0_ringUp_87 : decode cX0_ringUp 87 = .ok (.aload_n 0, 1) := by decide +kernel
theorem dX0_ringUp_88 : decode cX0_ringUp 88 = .ok (.iconst 4, 1) := by decide +kernel
theorem dX0_ringUp_89 : decode cX0_ringUp 89 = .ok (.iconst (-1), 1) := by decide +kernel
theorem dX0_ringUp_90 : decode cX0_ringUp 90 = .ok (.iconst (-1), 1) := by decide +kernel
theorem dX0_ringUp_91 : decode cX0_ringUp 91 = .ok (.invokevirtual 114, 3) := by decide +kernel
theorem dX0_ringUp_94 : decode cX0_ringUp 94 = .ok (.return_, 1) := by decide +kernel
theorem dX0_note_0 : decode cX0_note 0 = .ok (.aload_n 0, 1) := by decide +kernel
theorem dX0_note_1 : decode cX0_note 1 = .ok (.getfield 30, 3) := by decide +kernel
theorem dX0_note_4 : decode cX0_note 4 = .ok (.ifCond .ne 16, 3) := by decide +kernel
theorem dX0_note_7 : decode cX0_note 7 = .ok (.aload_n 0, 1) := by decide +kernel
theorem dX0_note_8 : decode cX0_note 8 = .ok (.getfield 25, 3) := by decide +kernel
theorem dX0_note_11 : decode cX0_note 11 = .ok (.getfield 128, 3) := by decide +kernel
theorem dX0_note_14 : decode cX0_note 14 = .ok (.sipush 150, 3) := by decide +kernel
theorem dX0_note_17 : decode cX0_note 17 = .ok (.if_icmp .lt 4, 3) := by decide +kernel
theorem dX0_note_20 : decode cX0_note 20 = .ok (.return_, 1) := by decide +kernel
theorem dX0_note_21 : decode cX0_note 21 = .ok (.aload_n 0, 1) := by decide +kernel
theorem dX0_note_22 : decode cX0_note 22 = .ok (.getfield 25, 3) := by decide +kernel
theorem dX0_note_25 : decode cX0_note 25 = .ok (.getfield 128, 3) := by decide +kernel
theorem dX0_note_28 : decode cX0_note 28 = .ok (.iconst 4, 1) := by decide +kernel
theorem dX0_note_29 : decode cX0_note 29 = .ok (.imul, 1) := by decide +kernel
theorem dX0_note_30 : decode cX0_note 30 = .ok (.istore 4, 2) := by decide +kernel
theorem dX0_note_32 : decode cX0_note 32 = .ok (.aload_n 0, 1) := by decide +kernel
theorem dX0_note_33 : decode cX0_note 33 = .ok (.getfield 9, 3) := by decide +kernel
theorem dX0_note_36 : decode cX0_note 36 = .ok (.getfield 131, 3) := by decide +kernel
theorem dX0_note_39 : decode cX0_note 39 = .ok (.iload 4, 2) := by decide +kernel
theorem dX0_note_41 : decode cX0_note 41 = .ok (.aload_n 0, 1) := by decide +kernel
theorem dX0_note_42 : decode cX0_note 42 = .ok (.getfield 25, 3) := by decide +kernel
theorem dX0_note_45 : decode cX0_note 45 = .ok (.getfield 37, 3) := by decide +kernel
theorem dX0_note_48 : decode cX0_note 48 = .ok (.iastore, 1) := by decide +kernel
theorem dX0_note_49 : decode cX0_note 49 = .ok (.aload_n 0, 1) := by decide +kernel
theorem dX0_note_50 : decode cX0_note 50 = .ok (.getfield 9, 3) := by decide +kernel
theorem dX0_note_53 : decode cX0_note 53 = .ok (.getfield 131, 3) := by decide +kernel
theorem dX0_note_56 : decode cX0_note 56 = .ok (.iload 4, 2) := by decide +kernel
theorem dX0_note_58 : decode cX0_note 58 = .ok (.iconst 1, 1) := by decide +kernel
theorem dX0_note_59 : decode cX0_note 59 = .ok (.iadd, 1) := by decide +kernel
theorem dX0_note_60 : decode cX0_note 60 = .ok (.iload_n 1, 1) := by decide +kernel
theorem dX0_note_61 : decode cX0_note 61 = .ok (.iastore, 1) := by decide +kernel
theorem dX0_note_62 : decode cX0_note 62 = .ok (.aload_n 0, 1) := by decide +kernel
theorem dX0_note_63 : decode cX0_note 63 = .ok (.getfield 9, 3) := by decide +kernel
theorem dX0_note_66 : decode cX0_note 66 = .ok (.getfield 131, 3) := by decide +kernel
theorem dX0_note_69 : decode cX0_note 69 = .ok (.iload 4, 2) := by decide +kernel
theorem dX0_note_71 : decode cX0_note 71 = .ok (.iconst 2, 1) := by decide +kernel
theorem dX0_note_72 : decode cX0_note 72 = .ok (.iadd, 1) := by decide +kernel
theorem dX0_note_73 : decode cX0_note 73 = .ok (.iload_n 2, 1) := by decide +kernel
theorem dX0_note_74 : decode cX0_note 74 = .ok (.iastore, 1) := by decide +kernel
theorem dX0_note_75 : decode cX0_note 75 = .ok (.aload_n 0, 1) := by decide +kernel
theorem dX0_note_76 : decode cX0_note 76 = .ok (.getfield 9, 3) := by decide +kernel
theorem dX0_note_79 : decode cX0_note 79 = .ok (.getfield 131, 3) := by decide +kernel
theorem dX0_note_82 : decode cX0_note 82 = .ok (.iload 4, 2) := by decide +kernel
theorem dX0_note_84 : decode cX0_note 84 = .ok (.iconst 3, 1) := by decide +kernel
theorem dX0_note_85 : decode cX0_note 85 = .ok (.iadd, 1) := by decide +kernel
theorem dX0_note_86 : decode cX0_note 86 = .ok (.iload_n 3, 1) := by decide +kernel
theorem dX0_note_87 : decode cX0_note 87 = .ok (.iastore, 1) := by decide +kernel
theorem dX0_note_88 : decode cX0_note 88 = .ok (.aload_n 0, 1) := by decide +kernel
theorem dX0_note_89 : decode cX0_note 89 = .ok (.getfield 25, 3) := by decide +kernel
theorem dX0_note_92 : decode cX0_note 92 = .ok (.dup, 1) := by decide +kernel
theorem dX0_note_93 : decode cX0_note 93 = .ok (.getfield 128, 3) := by decide +kernel
theorem dX0_note_96 : decode cX0_note 96 = .ok (.iconst 1, 1) := by decide +kernel
theorem dX0_note_97 : decode cX0_note 97 = .ok (.iadd, 1) := by decide +kernel
theorem dX0_note_98 : decode cX0_note 98 = .ok (.putfield 128, 3) := by decide +kernel
theorem dX0_note_101 : decode cX0_note 101 = .ok (.return_, 1) := by decide +kernel
theorem dX0_followSayings_0 : decode cX0_followSayings 0 = .ok (.aload_n 0, 1) := by decide +kernel
theorem dX0_followSayings_1 : decode cX0_followSayings 1 = .ok (.getfield 9, 3) := by decide +kernel
theorem dX0_followSayings_4 : decode cX0_followSayings 4 = .ok (.getfield 62, 3) := by decide +kernel
theorem dX0_followSayings_7 : decode cX0_followSayings 7 = .ok (.iconst 2, 1) := by decide +kernel
theorem dX0_followSayings_8 : decode cX0_followSayings 8 = .ok (.aaload, 1) := by decide +kernel
theorem dX0_followSayings_9 : decode cX0_followSayings 9 = .ok (.astore_n 1, 1) := by decide +kernel
theorem dX0_followSayings_10 : decode cX0_followSayings 10 = .ok (.iconst 0, 1) := by decide +kernel
theorem dX0_followSayings_11 : decode cX0_followSayings 11 = .ok (.istore_n 2, 1) := by decide +kernel
theorem dX0_followSayings_12 : decode cX0_followSayings 12 = .ok (.iload_n 2, 1) := by decide +kernel
theorem dX0_followSayings_13 : decode cX0_followSayings 13 = .ok (.aload_n 1, 1) := by decide +kernel
theorem dX0_followSayings_14 : decode cX0_followSayings 14 = .ok (.getfield 66, 3) := by decide +kernel
theorem dX0_followSayings_17 : decode cX0_followSayings 17 = .ok (.if_icmp .ge 93, 3) := by decide +kernel
theorem dX0_followSayings_20 : decode cX0_followSayings 20 = .ok (.aload_n 1, 1) := by decide +kernel
theorem dX0_followSayings_21 : decode cX0_followSayings 21 = .ok (.iload_n 2, 1) := by decide +kernel
theorem dX0_followSayings_22 : decode cX0_followSayings 22 = .ok (.iconst 0, 1) := by decide +kernel
theorem dX0_followSayings_23 : decode cX0_followSayings 23 = .ok (.invokevirtual 71, 3) := by decide +kernel
theorem dX0_followSayings_26 : decode cX0_followSayings 26 = .ok (.aload_n 0, 1) := by decide +kernel
theorem dX0_followSayings_27 : decode cX0_followSayings 27 = .ok (.getfield 25, 3) := by decide +kernel
theorem dX0_followSayings_30 : decode cX0_followSayings 30 = .ok (.getfield 37, 3) := by decide +kernel
theorem dX0_followSayings_33 : decode cX0_followSayings 33 = .ok (.if_icmp .eq 6, 3) := by decide +kernel
theorem dX0_followSayings_36 : decode cX0_followSayings 36 = .ok (.goto 68, 3) := by decide +kernel
theorem dX0_followSayings_39 : decode cX0_followSayings 39 = .ok (.aload_n 1, 1) := by decide +kernel
theorem dX0_followSayings_40 : decode cX0_followSayings 40 = .ok (.iload_n 2, 1) := by decide +kernel
theorem dX0_followSayings_41 : decode cX0_followSayings 41 = .ok (.iconst 1, 1) := by decide +kernel
theorem dX0_followSayings_42 : decode cX0_followSayings 42 = .ok (.invokevirtual 71, 3) := by decide +kernel
theorem dX0_followSayings_45 : decode cX0_followSayings 45 = .ok (.istore_n 3, 1) := by decide +kernel
theorem dX0_followSayings_46 : decode cX0_followSayings 46 = .ok (.aload_n 1, 1) := by decide +kernel
theorem dX0_followSayings_47 : decode cX0_followSayings 47 = .ok (.iload_n 2, 1) := by decide +kernel
theorem dX0_followSayings_48 : decode cX0_followSayings 48 = .ok (.iconst 2, 1) := by decide +kernel
theorem dX0_followSayings_49 : decode cX0_followSayings 49 = .ok (.invokevirtual 71, 3) := by decide +kernel
theorem dX0_followSayings_52 : decode cX0_followSayings 52 = .ok (.ifCond .ne 30, 3) := by decide +kernel
theorem dX0_followSayings_55 : decode cX0_followSayings 55 = .ok (.aload_n 0, 1) := by decide +kernel
theorem dX0_followSayings_56 : decode cX0_followSayings 56 = .ok (.iload_n 3, 1) := by decide +kernel
theorem dX0_followSayings_57 : decode cX0_followSayings 57 = .ok (.aload_n 1, 1) := by decide +kernel
theorem dX0_followSayings_58 : decode cX0_followSayings 58 = .ok (.iload_n 2, 1) := by decide +kernel
theorem dX0_followSayings_59 : decode cX0_followSayings 59 = .ok (.iconst 3, 1) := by decide +kernel
theorem dX0_followSayings_60 : decode cX0_followSayings 60 = .ok (.invokevirtual 71, 3) := by decide +kernel
theorem dX0_followSayings_63 : decode cX0_followSayings 63 = .ok (.aload_n 1, 1) := by decide +kernel
theorem dX0_followSayings_64 : decode cX0_followSayings 64 = .ok (.iload_n 2, 1) := by decide +kernel
theorem dX0_followSayings_65 : decode cX0_followSayings 65 = .ok (.iconst 4, 1) := by decide +kernel
theorem dX0_followSayings_66 : decode cX0_followSayings 66 = .ok (.invokevirtual 71, 3) := by decide +kernel
theorem dX0_followSayings_69 : decode cX0_followSayings 69 = .ok (.aload_n 1, 1) := by decide +kernel
theorem dX0_followSayings_70 : decode cX0_followSayings 70 = .ok (.iload_n 2, 1) := by decide +kernel
theorem dX0_followSayings_71 : decode cX0_followSayings 71 = .ok (.iconst 5, 1) := by decide +kernel
theorem dX0_followSayings_72 : decode cX0_followSayings 72 = .ok (.invokevirtual 71, 3) := by decide +kernel
theorem dX0_followSayings_75 : decode cX0_followSayings 75 = .ok (.invokevirtual 134, 3) := by decide +kernel
theorem dX0_followSayings_78 : decode cX0_followSayings 78 = .ok (.pop, 1) := by decide +kernel
theorem dX0_followSayings_79 : decode cX0_followSayings 79 = .ok (.goto 25, 3) := by decide +kernel
theorem dX0_followSayings_82 : decode cX0_followSayings 82 = .ok (.aload_n 0, 1) := by decide +kernel
theorem dX0_followSayings_83 : decode cX0_followSayings 83 = .ok (.getfield 25, 3) := by decide +kernel
theorem dX0_followSayings_86 : decode cX0_followSayings 86 = .ok (.iload_n 3, 1) := by decide +kernel
theorem dX0_followSayings_87 : decode cX0_followSayings 87 = .ok (.invokevirtual 138, 3) := by decide +kernel
theorem dX0_followSayings_90 : decode cX0_followSayings 90 = .ok (.istore 4, 2) := by decide +kernel
theorem dX0_followSayings_92 : decode cX0_followSayings 92 = .ok (.iload 4, 2) := by decide +kernel
theorem dX0_followSayings_94 : decode cX0_followSayings 94 = .ok (.iconst (-1), 1) := by decide +kernel
theorem dX0_followSayings_95 : decode cX0_followSayings 95 = .ok (.if_icmp .eq 9, 3) := by decide +kernel
theorem dX0_followSayings_98 : decode cX0_followSayings 98 = .ok (.aload_n 0, 1) := by decide +kernel
theorem dX0_followSayings_99 : decode cX0_followSayings 99 = .ok (.iload 4, 2) := by decide +kernel
theorem dX0_followSayings_101 : decode cX0_followSayings 101 = .ok (.invokevirtual 121, 3) := by decide +kernel
theorem dX0_followSayings_104 : decode cX0_followSayings 104 = .ok (.iinc 2 1, 3) := by decide +kernel
theorem dX0_followSayings_107 : decode cX0_followSayings 107 = .ok (.goto (-95), 3) := by decide +kernel
theorem dX0_followSayings_110 : decode cX0_followSayings 110 = .ok (.return_, 1) := by decide +kernel
theorem dX0_readMessages_0 : decode cX0_readMessages 0 = .ok (.aload_n 0, 1) := by decide +kernel
theorem dX0_readMessages_1 : decode cX0_readMessages 1 = .ok (.getfield 9, 3) := by decide +kernel
theorem dX0_readMessages_4 : decode cX0_readMessages 4 = .ok (.iconst 0, 1) := by decide +kernel
theorem dX0_readMessages_5 : decode cX0_readMessages 5 = .ok (.aload_n 0, 1) := by decide +kernel
theorem dX0_readMessages_6 : decode cX0_readMessages 6 = .ok (.getfield 25, 3) := by decide +kernel
theorem dX0_readMessages_9 : decode cX0_readMessages 9 = .ok (.invokevirtual 84, 3) := by decide +kernel
theorem dX0_readMessages_12 : decode cX0_readMessages 12 = .ok (.invokevirtual 87, 3) := by decide +kernel
theorem dX0_readMessages_15 : decode cX0_readMessages 15 = .ok (.istore_n 1, 1) := by decide +kernel
theorem dX0_readMessages_16 : decode cX0_readMessages 16 = .ok (.aload_n 0, 1) := by decide +kernel
theorem dX0_readMessages_17 : decode cX0_readMessages 17 = .ok (.getfield 9, 3) := by decide +kernel
theorem dX0_readMessages_20 : decode cX0_readMessages 20 = .ok (.iconst 1, 1) := by decide +kernel
theorem dX0_readMessages_21 : decode cX0_readMessages 21 = .ok (.aload_n 0, 1) := by decide +kernel
theorem dX0_readMessages_22 : decode cX0_readMessages 22 = .ok (.getfield 25, 3) := by decide +kernel
theorem dX0_readMessages_25 : decode cX0_readMessages 25 = .ok (.invokevirtual 84, 3) := by decide +kernel
theorem dX0_readMessages_28 : decode cX0_readMessages 28 = .ok (.invokevirtual 87, 3) := by decide +kernel
theorem dX0_readMessages_31 : decode cX0_readMessages 31 = .ok (.istore_n 2, 1) := by decide +kernel
theorem dX0_readMessages_32 : decode cX0_readMessages 32 = .ok (.iconst 0, 1) := by decide +kernel
theorem dX0_readMessages_33 : decode cX0_readMessages 33 = .ok (.istore_n 3, 1) := by decide +kernel
theorem dX0_readMessages_34 : decode cX0_readMessages 34 = .ok (.iload_n 3, 1) := by decide +kernel
theorem dX0_readMessages_35 : decode cX0_readMessages 35 = .ok (.aload_n 0, 1) := by decide +kernel
theorem dX0_readMessages_36 : decode cX0_readMessages 36 = .ok (.getfield 25, 3) := by decide +kernel
theorem dX0_readMessages_39 : decode cX0_readMessages 39 = .ok (.getfield 74, 3) := by decide +kernel
theorem dX0_readMessages_42 : decode cX0_readMessages 42 = .ok (.if_icmp .ge 77, 3) := by decide +kernel
theorem dX0_readMessages_45 : decode cX0_readMessages 45 = .ok (.iload_n 1, 1) := by decide +kernel
theorem dX0_readMessages_46 : decode cX0_readMessages 46 = .ok (.ifCond .ne 7, 3) := by decide +kernel
theorem dX0_readMessages_49 : decode cX0_readMessages 49 = .ok (.iload_n 2, 1) := by decide +kernel
theorem dX0_readMessages_50 : decode cX0_readMessages 50 = .ok (.ifCond .eq 69, 3) := by decide +kernel
theorem dX0_readMessages_53 : decode cX0_readMessages 53 = .ok (.aload_n 0, 1) := by decide +kernel
theorem dX0_readMessages_54 : decode cX0_readMessages 54 = .ok (.getfield 25, 3) := by decide +kernel
theorem dX0_readMessages_57 : decode cX0_readMessages 57 = .ok (.getfield 95, 3) := by decide +kernel
theorem dX0_readMessages_60 : decode cX0_readMessages 60 = .ok (.iload_n 3, 1) := by decide +kernel
theorem dX0_readMessages_61 : decode cX0_readMessages 61 = .ok (.iaload, 1) := by decide +kernel
theorem dX0_readMessages_62 : decode cX0_readMessages 62 = .ok (.iconst 1, 1) := by decide +kernel
theorem dX0_readMessages_63 : decode cX0_readMessages 63 = .ok (.if_icmp .ne 7, 3) := by decide +kernel
theorem dX0_readMessages_66 : decode cX0_readMessages 66 = .ok (.iload_n 1, 1) := by decide +kernel
theorem dX0_readMessages_67 : decode cX0_readMessages 67 = .ok (.goto 4, 3) := by decide +kernel
theorem dX0_readMessages_70 : decode cX0_readMessages 70 = .ok (.iload_n 2, 1) := by decide +kernel
theorem dX0_readMessages_71 : decode cX0_readMessages 71 = .ok (.istore 4, 2) := by decide +kernel
theorem dX0_readMessages_73 : decode cX0_readMessages 73 = .ok (.iload 4, 2) := by decide +kernel
theorem dX0_readMessages_75 : decode cX0_readMessages 75 = .ok (.ifCond .eq 38, 3) := by decide +kernel
theorem dX0_readMessages_78 : decode cX0_readMessages 78 = .ok (.aload_n 0, 1) := by decide +kernel
theorem dX0_readMessages_79 : decode cX0_readMessages 79 = .ok (.getfield 25, 3) := by decide +kernel
theorem dX0_readMessages_82 : decode cX0_readMessages 82 = .ok (.iload_n 3, 1) := by decide +kernel
theorem dX0_readMessages_83 : decode cX0_readMessages 83 = .ok (.invokevirtual 91, 3) := by decide +kernel
theorem dX0_readMessages_86 : decode cX0_readMessages 86 = .ok (.ifCond .eq 27, 3) := by decide +kernel
theorem dX0_readMessages_89 : decode cX0_readMessages 89 = .ok (.aload_n 0, 1) := by decide +kernel
theorem dX0_readMessages_90 : decode cX0_readMessages 90 = .ok (.getfield 25, 3) := by decide +kernel
theorem dX0_readMessages_93 : decode cX0_readMessages 93 = .ok (.getfield 142, 3) := by decide +kernel
theorem dX0_readMessages_96 : decode cX0_readMessages 96 = .ok (.iload_n 3, 1) := by decide +kernel
theorem dX0_readMessages_97 : decode cX0_readMessages 97 = .ok (.iaload, 1) := by decide +kernel
theorem dX0_readMessages_98 : decode cX0_readMessages 98 = .ok (.aload_n 0, 1) := by decide +kernel
theorem dX0_readMessages_99 : decode cX0_readMessages 99 = .ok (.getfield 25, 3) := by decide +kernel
theorem dX0_readMessages_102 : decode cX0_readMessages 102 = .ok (.getfield 37, 3) := by decide +kernel
theorem dX0_readMessages_105 : decode cX0_readMessages 105 = .ok (.if_icmp .ge 8, 3) := by decide +kernel
theorem dX0_readMessages_108 : decode cX0_readMessages 108 = .ok (.aload_n 0, 1) := by decide +kernel
theorem dX0_readMessages_109 : decode cX0_readMessages 109 = .ok (.iload_n 3, 1) := by decide +kernel
theorem dX0_readMessages_110 : decode cX0_readMessages 110 = .ok (.invokevirtual 145, 3) := by decide +kernel
theorem dX0_readMessages_113 : decode cX0_readMessages 113 = .ok (.iinc 3 1, 3) := by decide +kernel
theorem dX0_readMessages_116 : decode cX0_readMessages 116 = .ok (.goto (-82), 3) := by decide +kernel
theorem dX0_readMessages_119 : decode cX0_readMessages 119 = .ok (.return_, 1) := by decide +kernel
theorem dX0_readOne_0 : decode cX0_readOne 0 = .ok (.iconst 1, 1) := by decide +kernel
theorem dX0_readOne_1 : decode cX0_readOne 1 = .ok (.aload_n 0, 1) := by decide +kernel
theorem dX0_readOne_2 : decode cX0_readOne 2 = .ok (.getfield 25, 3) := by decide +kernel
theorem dX0_readOne_5 : decode cX0_readOne 5 = .ok (.getfield 95, 3) := by decide +kernel
theorem dX0_readOne_8 : decode cX0_readOne 8 = .ok (.iload_n 1, 1) := by decide +kernel
theorem dX0_readOne_9 : decode cX0_readOne 9 = .ok (.iaload, 1) := by decide +kernel
theorem dX0_readOne_10 : decode cX0_readOne 10 = .ok (.isub, 1) := by decide +kernel
theorem dX0_readOne_11 : decode cX0_readOne 11 = .ok (.istore_n 2, 1) := by decide +kernel
theorem dX0_readOne_12 : decode cX0_readOne 12 = .ok (.aload_n 0, 1) := by decide +kernel
theorem dX0_readOne_13 : decode cX0_readOne 13 = .ok (.getfield 9, 3) := by decide +kernel
theorem dX0_readOne_16 : decode cX0_readOne 16 = .ok (.getfield 62, 3) := by decide +kernel
theorem dX0_readOne_19 : decode cX0_readOne 19 = .ok (.iconst 0, 1) := by decide +kernel
theorem dX0_readOne_20 : decode cX0_readOne 20 = .ok (.aaload, 1) := by decide +kernel
theorem dX0_readOne_21 : decode cX0_readOne 21 = .ok (.astore_n 3, 1) := by decide +kernel
theorem dX0_readOne_22 : decode cX0_readOne 22 = .ok (.aload_n 0, 1) := by decide +kernel
theorem dX0_readOne_23 : decode cX0_readOne 23 = .ok (.getfield 25, 3) := by decide +kernel
theorem dX0_readOne_26 : decode cX0_readOne 26 = .ok (.getfield 148, 3) := by decide +kernel
theorem dX0_readOne_29 : decode cX0_readOne 29 = .ok (.iload_n 1, 1) := by decide +kernel
theorem dX0_readOne_30 : decode cX0_readOne 30 = .ok (.aload_n 0, 1) := by decide +kernel
theorem dX0_readOne_31 : decode cX0_readOne 31 = .ok (.getfield 25, 3) := by decide +kernel
theorem dX0_readOne_34 : decode cX0_readOne 34 = .ok (.getfield 37, 3) := by decide +kernel
theorem dX0_readOne_37 : decode cX0_readOne 37 = .ok (.iastore, 1) := by decide +kernel
theorem dX0_readOne_38 : decode cX0_readOne 38 = .ok (.aload_n 0, 1) := by decide +kernel
theorem dX0_readOne_39 : decode cX0_readOne 39 = .ok (.getfield 25, 3) := by decide +kernel
theorem dX0_readOne_42 : decode cX0_readOne 42 = .ok (.dup, 1) := by decide +kernel
theorem dX0_readOne_43 : decode cX0_readOne 43 = .ok (.getfield 55, 3) := by decide +kernel
theorem dX0_readOne_46 : decode cX0_readOne 46 = .ok (.iconst 1, 1) := by decide +kernel
theorem dX0_readOne_47 : decode cX0_readOne 47 = .ok (.isub, 1) := by decide +kernel
theorem dX0_readOne_48 : decode cX0_readOne 48 = .ok (.putfield 55, 3) := by decide +kernel
theorem dX0_readOne_51 : decode cX0_readOne 51 = .ok (.aload_n 0, 1) := by decide +kernel
theorem dX0_readOne_52 : decode cX0_readOne 52 = .ok (.iconst 1, 1) := by decide +kernel
theorem dX0_readOne_53 : decode cX0_readOne 53 = .ok (.iload_n 2, 1) := by decide +kernel
theorem dX0_readOne_54 : decode cX0_readOne 54 = .ok (.iload_n 1, 1) := by decide +kernel
theorem dX0_readOne_55 : decode cX0_readOne 55 = .ok (.invokevirtual 114, 3) := by decide +kernel
theorem dX0_readOne_58 : decode cX0_readOne 58 = .ok (.aload_n 0, 1) := by decide +kernel
theorem dX0_readOne_59 : decode cX0_readOne 59 = .ok (.getfield 15, 3) := by decide +kernel
theorem dX0_readOne_62 : decode cX0_readOne 62 = .ok (.aload_n 0, 1) := by decide +kernel
theorem dX0_readOne_63 : decode cX0_readOne 63 = .ok (.getfield 9, 3) := by decide +kernel
theorem dX0_readOne_66 : decode cX0_readOne 66 = .ok (.aload_n 0, 1) := by decide +kernel
theorem dX0_readOne_67 : decode cX0_readOne 67 = .ok (.getfield 25, 3) := by decide +kernel
theorem dX0_readOne_70 : decode cX0_readOne 70 = .ok (.iload_n 2, 1) := by decide +kernel
theorem dX0_readOne_71 : decode cX0_readOne 71 = .ok (.invokevirtual 151, 3) := by decide +kernel
theorem dX0_readOne_74 : decode cX0_readOne 74 = .ok (.aload_n 0, 1) := by decide +kernel
theorem dX0_readOne_75 : decode cX0_readOne 75 = .ok (.getfield 15, 3) := by decide +kernel
theorem dX0_readOne_78 : decode cX0_readOne 78 = .ok (.aload_n 0, 1) := by decide +kernel
theorem dX0_readOne_79 : decode cX0_readOne 79 = .ok (.getfield 25, 3) := by decide +kernel
theorem dX0_readOne_82 : decode cX0_readOne 82 = .ok (.getfield 157, 3) := by decide +kernel
theorem dX0_readOne_85 : decode cX0_readOne 85 = .ok (.iload_n 1, 1) := by decide +kernel
theorem dX0_readOne_86 : decode cX0_readOne 86 = .ok (.iaload, 1) := by decide +kernel
theorem dX0_readOne_87 : decode cX0_readOne 87 = .ok (.aload_n 0, 1) := by decide +kernel
theorem dX0_readOne_88 : decode cX0_readOne 88 = .ok (.getfield 25, 3) := by decide +kernel
theorem dX0_readOne_91 : decode cX0_readOne 91 = .ok (.getfield 160, 3) := by decide +kernel
theorem dX0_readOne_94 : decode cX0_readOne 94 = .ok (.iload_n 1, 1) := by decide +kernel
theorem dX0_readOne_95 : decode cX0_readOne 95 = .ok (.iaload, 1) := by decide +kernel
theorem dX0_readOne_96 : decode cX0_readOne 96 = .ok (.aload_n 0, 1) := by decide +kernel
theorem dX0_readOne_97 : decode cX0_readOne 97 = .ok (.getfield 25, 3) := by decide +kernel
theorem dX0_readOne_100 : decode cX0_readOne 100 = .ok (.getfield 163, 3) := by decide +kernel
theorem dX0_readOne_103 : decode cX0_readOne 103 = .ok (.iload_n 1, 1) := by decide +kernel
theorem dX0_readOne_104 : decode cX0_readOne 104 = .ok (.iaload, 1) := by decide +kernel
theorem dX0_readOne_105 : decode cX0_readOne 105 = .ok (.invokevirtual 166, 3) := by decide +kernel
theorem dX0_readOne_108 : decode cX0_readOne 108 = .ok (.aload_n 0, 1) := by decide +kernel
theorem dX0_readOne_109 : decode cX0_readOne 109 = .ok (.getfield 25, 3) := by decide +kernel
theorem dX0_readOne_112 : decode cX0_readOne 112 = .ok (.getfield 107, 3) := by decide +kernel
theorem dX0_readOne_115 : decode cX0_readOne 115 = .ok (.iload_n 2, 1) := by decide +kernel
theorem dX0_readOne_116 : decode cX0_readOne 116 = .ok (.iaload, 1) := by decide +kernel
theorem dX0_readOne_117 : decode cX0_readOne 117 = .ok (.aload_n 0, 1) := by decide +kernel
theorem dX0_readOne_118 : decode cX0_readOne 118 = .ok (.getfield 15, 3) := by decide +kernel
theorem dX0_readOne_121 : decode cX0_readOne 121 = .ok (.aload_n 3, 1) := by decide +kernel
theorem dX0_readOne_122 : decode cX0_readOne 122 = .ok (.iconst 3, 1) := by decide +kernel
theorem dX0_readOne_123 : decode cX0_readOne 123 = .ok (.invokevirtual 169, 3) := by decide +kernel
theorem dX0_readOne_126 : decode cX0_readOne 126 = .ok (.iadd, 1) := by decide +kernel
theorem dX0_readOne_127 : decode cX0_readOne 127 = .ok (.istore 4, 2) := by decide +kernel
theorem dX0_readOne_129 : decode cX0_readOne 129 = .ok (.aload_n 0, 1) := by decide +kernel
theorem dX0_readOne_130 : decode cX0_readOne 130 = .ok (.getfield 25, 3) := by decide +kernel
theorem dX0_readOne_133 : decode cX0_readOne 133 = .ok (.getfield 107, 3) := by decide +kernel
theorem dX0_readOne_136 : decode cX0_readOne 136 = .ok (.iload_n 2, 1) := by decide +kernel
theorem dX0_readOne_137 : decode cX0_readOne 137 = .ok (.iconst 0, 1) := by decide +kernel
theorem dX0_readOne_138 : decode cX0_readOne 138 = .ok (.bipush 99, 2) := by decide +kernel
theorem dX0_readOne_140 : decode cX0_readOne 140 = .ok (.iload 4, 2) := by decide +kernel
theorem dX0_readOne_142 : decode cX0_readOne 142 = .ok (.invokestatic 46, 3) := by decide +kernel
theorem dX0_readOne_145 : decode cX0_readOne 145 = .ok (.invokestatic 125, 3) := by decide +kernel
theorem dX0_readOne_148 : decode cX0_readOne 148 = .ok (.iastore, 1) := by decide +kernel
theorem dX0_readOne_149 : decode cX0_readOne 149 = .ok (.aload_n 0, 1) := by decide +kernel
theorem dX0_readOne_150 : decode cX0_readOne 150 = .ok (.getfield 15, 3) := by decide +kernel
theorem dX0_readOne_153 : decode cX0_readOne 153 = .ok (.getfield 173, 3) := by decide +kernel
theorem dX0_readOne_156 : decode cX0_readOne 156 = .ok (.iconst 1, 1) := by decide +kernel
theorem dX0_readOne_157 : decode cX0_readOne 157 = .ok (.aload_n 0, 1) := by decide +kernel
theorem dX0_readOne_158 : decode cX0_readOne 158 = .ok (.getfield 25, 3) := by decide +kernel
theorem dX0_readOne_161 : decode cX0_readOne 161 = .ok (.getfield 107, 3) := by decide +kernel
theorem dX0_readOne_164 : decode cX0_readOne 164 = .ok (.iload_n 2, 1) := by decide +kernel
theorem dX0_readOne_165 : decode cX0_readOne 165 = .ok (.iaload, 1) := by decide +kernel
theorem dX0_readOne_166 : decode cX0_readOne 166 = .ok (.iastore, 1) := by decide +kernel
theorem dX0_readOne_167 : decode cX0_readOne 167 = .ok (.aload_n 0, 1) := by decide +kernel
theorem dX0_readOne_168 : decode cX0_readOne 168 = .ok (.getfield 15, 3) := by decide +kernel
theorem dX0_readOne_171 : decode cX0_readOne 171 = .ok (.aload_n 3, 1) := by decide +kernel
theorem dX0_readOne_172 : decode cX0_readOne 172 = .ok (.iconst 4, 1) := by decide +kernel
theorem dX0_readOne_173 : decode cX0_readOne 173 = .ok (.invokevirtual 169, 3) := by decide +kernel
theorem dX0_readOne_176 : decode cX0_readOne 176 = .ok (.istore 5, 2) := by decide +kernel
theorem dX0_readOne_178 : decode cX0_readOne 178 = .ok (.aload_n 0, 1) := by decide +kernel
theorem dX0_readOne_179 : decode cX0_readOne 179 = .ok (.getfield 30, 3) := by decide +kernel
theorem dX0_readOne_182 : decode cX0_readOne 182 = .ok (.ifCond .eq 14, 3) := by decide +kernel
theorem dX0_readOne_185 : decode cX0_readOne 185 = .ok (.iload 5, 2) := by decide +kernel
theorem dX0_readOne_187 : decode cX0_readOne 187 = .ok (.sipush 500, 3) := by decide +kernel
theorem dX0_readOne_190 : decode cX0_readOne 190 = .ok (.if_icmp .lt 72, 3) := by decide +kernel
theorem dX0_readOne_193 : decode cX0_readOne 193 = .ok (.goto 15, 3) := by decide +kernel
theorem dX0_readOne_196 : decode cX0_readOne 196 = .ok (.aload_n 0, 1) := by decide +kernel
theorem dX0_readOne_197 : decode cX0_readOne 197 = .ok (.sipush 1000, 3) := by decide +kernel
theorem dX0_readOne_200 : decode cX0_readOne 200 = .ok (.invokevirtual 176, 3) := by decide +kernel
theorem dX0_readOne_203 : decode cX0_readOne 203 = .ok (.iload 5, 2) := by decide +kernel
theorem dX0_readOne_205 : decode cX0_readOne 205 = .ok (.if_icmp .ge 57, 3) := by decide +kernel
theorem dX0_readOne_208 : decode cX0_readOne 208 = .ok (.aload_n 0, 1) := by decide +kernel
theorem dX0_readOne_209 : decode cX0_readOne 209 = .ok (.getfield 25, 3) := by decide +kernel
theorem dX0_readOne_212 : decode cX0_readOne 212 = .ok (.getfield 80, 3) := by decide +kernel
theorem dX0_readOne_215 : decode cX0_readOne 215 = .ok (.iload_n 1, 1) := by decide +kernel
theorem dX0_readOne_216 : decode cX0_readOne 216 = .ok (.aload_n 0, 1) := by decide +kernel
theorem dX0_readOne_217 : decode cX0_readOne 217 = .ok (.getfield 25, 3) := by decide +kernel
theorem dX0_readOne_220 : decode cX0_readOne 220 = .ok (.getfield 37, 3) := by decide +kernel
theorem dX0_readOne_223 : decode cX0_readOne 223 = .ok (.iload_n 2, 1) := by decide +kernel
theorem dX0_readOne_224 : decode cX0_readOne 224 = .ok (.aload_n 0, 1) := by decide +kernel
theorem dX0_readOne_225 : decode cX0_readOne 225 = .ok (.getfield 26, 3) := by decide +kernel
theorem dX0_readOne_228 : decode cX0_readOne 228 = .ok (.if_icmp .ne 10, 3) := by decide +kernel
theorem dX0_readOne_231 : decode cX0_readOne 231 = .ok (.aload_n 0, 1) := by decide +kernel
theorem dX0_readOne_232 : decode cX0_readOne 232 = .ok (.getfield 34, 3) := by decide +kernel
theorem dX0_readOne_235 : decode cX0_readOne 235 = .ok (.goto 12, 3) := by decide +kernel
theorem dX0_readOne_238 : decode cX0_readOne 238 = .ok (.aload_n 0, 1) := by decide +kernel
theorem dX0_readOne_239 : decode cX0_readOne 239 = .ok (.getfield 15, 3) := by decide +kernel
theorem dX0_readOne_242 : decode cX0_readOne 242 = .ok (.aload_n 3, 1) := by decide +kernel
theorem dX0_readOne_243 : decode cX0_readOne 243 = .ok (.iconst 0, 1) := by decide +kernel
theorem dX0_readOne_244 : decode cX0_readOne 244 = .ok (.invokevirtual 169, 3) := by decide +kernel
theorem dX0_readOne_247 : decode cX0_readOne 247 = .ok (.iadd, 1) := by decide +kernel
theorem dX0_readOne_248 : decode cX0_readOne 248 = .ok (.iastore, 1) := by decide +kernel
theorem dX0_readOne_249 : decode cX0_readOne 249 = .ok (.aload_n 0, 1) := by decide +kernel
theorem dX0_readOne_250 : decode cX0_readOne 250 = .ok (.getfield 25, 3) := by decide +kernel
theorem dX0_readOne_253 : decode cX0_readOne 253 = .ok (.dup, 1) := by decide +kernel
theorem dX0_readOne_254 : decode cX0_readOne 254 = .ok (.getfield 77, 3) := by decide +kernel
theorem dX0_readOne_257 : decode cX0_readOne 257 = .ok (.iconst 1, 1) := by decide +kernel
theorem dX0_readOne_258 : decode cX0_readOne 258 = .ok (.iadd, 1) := by decide +kernel
theorem dX0_readOne_259 : decode cX0_readOne 259 = .ok (.putfield 77, 3) := by decide +kernel
theorem dX0_readOne_262 : decode cX0_readOne 262 = .ok (.return_, 1) := by decide +kernel
theorem dX0_answerMessages_0 : decode cX0_answerMessages 0 = .ok (.aload_n 0, 1) := by decide +kernel
theorem dX0_answerMessages_1 : decode cX0_answerMessages 1 = .ok (.getfield 25, 3) := by decide +kernel
theorem dX0_answerMessages_4 : decode cX0_answerMessages 4 = .ok (.getfield 74, 3) := by decide +kernel
theorem dX0_answerMessages_7 : decode cX0_answerMessages 7 = .ok (.istore_n 1, 1) := by decide +kernel
theorem dX0_answerMessages_8 : decode cX0_answerMessages 8 = .ok (.iconst 0, 1) := by decide +kernel
theorem dX0_answerMessages_9 : decode cX0_answerMessages 9 = .ok (.istore_n 2, 1) := by decide +kernel
theorem dX0_answerMessages_10 : decode cX0_answerMessages 10 = .ok (.iload_n 2, 1) := by decide +kernel
theorem dX0_answerMessages_11 : decode cX0_answerMessages 11 = .ok (.iload_n 1, 1) := by decide +kernel
theorem dX0_answerMessages_12 : decode cX0_answerMessages 12 = .ok (.if_icmp .ge 56, 3) := by decide +kernel
theorem dX0_answerMessages_15 : decode cX0_answerMessages 15 = .ok (.aload_n 0, 1) := by decide +kernel
theorem dX0_answerMessages_16 : decode cX0_answerMessages 16 = .ok (.getfield 25, 3) := by decide +kernel
theorem dX0_answerMessages_19 : decode cX0_answerMessages 19 = .ok (.getfield 80, 3) := by decide +kernel
theorem dX0_answerMessages_22 : decode cX0_answerMessages 22 = .ok (.iload_n 2, 1) := by decide +kernel
theorem dX0_answerMessages_23 : decode cX0_answerMessages 23 = .ok (.iaload, 1) := by decide +kernel
theorem dX0_answerMessages_24 : decode cX0_answerMessages 24 = .ok (.aload_n 0, 1) := by decide +kernel
theorem dX0_answerMessages_25 : decode cX0_answerMessages 25 = .ok (.getfield 25, 3) := by decide +kernel
theorem dX0_answerMessages_28 : decode cX0_answerMessages 28 = .ok (.getfield 37, 3) := by decide +kernel
theorem dX0_answerMessages_31 : decode cX0_answerMessages 31 = .ok (.if_icmp .ne 31, 3) := by decide +kernel
theorem dX0_answerMessages_34 : decode cX0_answerMessages 34 = .ok (.aload_n 0, 1) := by decide +kernel
theorem dX0_answerMessages_35 : decode cX0_answerMessages 35 = .ok (.getfield 25, 3) := by decide +kernel
theorem dX0_answerMessages_38 : decode cX0_answerMessages 38 = .ok (.getfield 80, 3) := by decide +kernel
theorem dX0_answerMessages_41 : decode cX0_answerMessages 41 = .ok (.iload_n 2, 1) := by decide +kernel
theorem dX0_answerMessages_42 : decode cX0_answerMessages 42 = .ok (.iconst (-1), 1) := by decide +kernel
theorem dX0_answerMessages_43 : decode cX0_answerMessages 43 = .ok (.iastore, 1) := by decide +kernel
theorem dX0_answerMessages_44 : decode cX0_answerMessages 44 = .ok (.aload_n 0, 1) := by decide +kernel
theorem dX0_answerMessages_45 : decode cX0_answerMessages 45 = .ok (.getfield 25, 3) := by decide +kernel
theorem dX0_answerMessages_48 : decode cX0_answerMessages 48 = .ok (.dup, 1) := by decide +kernel
theorem dX0_answerMessages_49 : decode cX0_answerMessages 49 = .ok (.getfield 77, 3) := by decide +kernel
theorem dX0_answerMessages_52 : decode cX0_answerMessages 52 = .ok (.iconst 1, 1) := by decide +kernel
theorem dX0_answerMessages_53 : decode cX0_answerMessages 53 = .ok (.isub, 1) := by decide +kernel
theorem dX0_answerMessages_54 : decode cX0_answerMessages 54 = .ok (.putfield 77, 3) := by decide +kernel
theorem dX0_answerMessages_57 : decode cX0_answerMessages 57 = .ok (.aload_n 0, 1) := by decide +kernel
theorem dX0_answerMessages_58 : decode cX0_answerMessages 58 = .ok (.iload_n 2, 1) := by decide +kernel
theorem dX0_answerMessages_59 : decode cX0_answerMessages 59 = .ok (.invokevirtual 179, 3) := by decide +kernel
theorem dX0_answerMessages_62 : decode cX0_answerMessages 62 = .ok (.iinc 2 1, 3) := by decide +kernel
theorem dX0_answerMessages_65 : decode cX0_answerMessages 65 = .ok (.goto (-55), 3) := by decide +kernel
theorem dX0_answerMessages_68 : decode cX0_answerMessages 68 = .ok (.return_, 1) := by decide +kernel
theorem dX0_answerOne_0 : decode cX0_answerOne 0 = .ok (.iconst 1, 1) := by decide +kernel
theorem dX0_answerOne_1 : decode cX0_answerOne 1 = .ok (.aload_n 0, 1) := by decide +kernel
theorem dX0_answerOne_2 : decode cX0_answerOne 2 = .ok (.getfield 25, 3) := by decide +kernel
theorem dX0_answerOne_5 : decode cX0_answerOne 5 = .ok (.getfield 95, 3) := by decide +kernel
theorem dX0_answerOne_8 : decode cX0_answerOne 8 = .ok (.iload_n 1, 1) := by decide +kernel
theorem dX0_answerOne_9 : decode cX0_answerOne 9 = .ok (.iaload, 1) := by decide +kernel
theorem dX0_answerOne_10 : decode cX0_answerOne 10 = .ok (.isub, 1) := by decide +kernel
theorem dX0_answerOne_11 : decode cX0_answerOne 11 = .ok (.istore_n 2, 1) := by decide +kernel
theorem dX0_answerOne_12 : decode cX0_answerOne 12 = .ok (.aload_n 0, 1) := by decide +kernel
theorem dX0_answerOne_13 : decode cX0_answerOne 13 = .ok (.getfield 9, 3) := by decide +kernel
theorem dX0_answerOne_16 : decode cX0_answerOne 16 = .ok (.getfield 62, 3) := by decide +kernel
theorem dX0_answerOne_19 : decode cX0_answerOne 19 = .ok (.iconst 0, 1) := by decide +kernel
theorem dX0_answerOne_20 : decode cX0_answerOne 20 = .ok (.aaload, 1) := by decide +kernel
theorem dX0_answerOne_21 : decode cX0_answerOne 21 = .ok (.astore_n 3, 1) := by decide +kernel
theorem dX0_answerOne_22 : decode cX0_answerOne 22 = .ok (.aload_n 0, 1) := by decide +kernel
theorem dX0_answerOne_23 : decode cX0_answerOne 23 = .ok (.getfield 15, 3) := by decide +kernel
theorem dX0_answerOne_26 : decode cX0_answerOne 26 = .ok (.aload_n 0, 1) := by decide +kernel
theorem dX0_answerOne_27 : decode cX0_answerOne 27 = .ok (.getfield 9, 3) := by decide +kernel
theorem dX0_answerOne_30 : decode cX0_answerOne 30 = .ok (.aload_n 0, 1) := by decide +kernel
theorem dX0_answerOne_31 : decode cX0_answerOne 31 = .ok (.getfield 25, 3) := by decide +kernel
theorem dX0_answerOne_34 : decode cX0_answerOne 34 = .ok (.iload_n 2, 1) := by decide +kernel
theorem dX0_answerOne_35 : decode cX0_answerOne 35 = .ok (.invokevirtual 151, 3) := by decide +kernel
theorem dX0_answerOne_38 : decode cX0_answerOne 38 = .ok (.aload_n 0, 1) := by decide +kernel
theorem dX0_answerOne_39 : decode cX0_answerOne 39 = .ok (.getfield 15, 3) := by decide +kernel
theorem dX0_answerOne_42 : decode cX0_answerOne 42 = .ok (.aload_n 0, 1) := by decide +kernel
theorem dX0_answerOne_43 : decode cX0_answerOne 43 = .ok (.getfield 25, 3) := by decide +kernel
theorem dX0_answerOne_46 : decode cX0_answerOne 46 = .ok (.getfield 157, 3) := by decide +kernel
theorem dX0_answerOne_49 : decode cX0_answerOne 49 = .ok (.iload_n 1, 1) := by decide +kernel
theorem dX0_answerOne_50 : decode cX0_answerOne 50 = .ok (.iaload, 1) := by decide +kernel
theorem dX0_answerOne_51 : decode cX0_answerOne 51 = .ok (.aload_n 0, 1) := by decide +kernel
theorem dX0_answerOne_52 : decode cX0_answerOne 52 = .ok (.getfield 25, 3) := by decide +kernel
theorem dX0_answerOne_55 : decode cX0_answerOne 55 = .ok (.getfield 160, 3) := by decide +kernel
theorem dX0_answerOne_58 : decode cX0_answerOne 58 = .ok (.iload_n 1, 1) := by decide +kernel
theorem dX0_answerOne_59 : decode cX0_answerOne 59 = .ok (.iaload, 1) := by decide +kernel
theorem dX0_answerOne_60 : decode cX0_answerOne 60 = .ok (.aload_n 0, 1) := by decide +kernel
theorem dX0_answerOne_61 : decode cX0_answerOne 61 = .ok (.getfield 25, 3) := by decide +kernel
theorem dX0_answerOne_64 : decode cX0_answerOne 64 = .ok (.getfield 163, 3) := by decide +kernel
theorem dX0_answerOne_67 : decode cX0_answerOne 67 = .ok (.iload_n 1, 1) := by decide +kernel
theorem dX0_answerOne_68 : decode cX0_answerOne 68 = .ok (.iaload, 1) := by decide +kernel
theorem dX0_answerOne_69 : decode cX0_answerOne 69 = .ok (.invokevirtual 166, 3) := by decide +kernel
theorem dX0_answerOne_72 : decode cX0_answerOne 72 = .ok (.aload_n 0, 1) := by decide +kernel
theorem dX0_answerOne_73 : decode cX0_answerOne 73 = .ok (.getfield 15, 3) := by decide +kernel
theorem dX0_answerOne_76 : decode cX0_answerOne 76 = .ok (.aload_n 3, 1) := by decide +kernel
theorem dX0_answerOne_77 : decode cX0_answerOne 77 = .ok (.iconst 1, 1) := by decide +kernel
theorem dX0_answerOne_78 : decode cX0_answerOne 78 = .ok (.invokevirtual 169, 3) := by decide +kernel
theorem dX0_answerOne_81 : decode cX0_answerOne 81 = .ok (.istore 4, 2) := by decide +kernel
theorem dX0_answerOne_83 : decode cX0_answerOne 83 = .ok (.aload_n 0, 1) := by decide +kernel
theorem dX0_answerOne_84 : decode cX0_answerOne 84 = .ok (.getfield 15, 3) := by decide +kernel
theorem dX0_answerOne_87 : decode cX0_answerOne 87 = .ok (.aload_n 3, 1) := by decide +kernel
theorem dX0_answerOne_88 : decode cX0_answerOne 88 = .ok (.iconst 2, 1) := by decide +kernel
theorem dX0_answerOne_89 : decode cX0_answerOne 89 = .ok (.invokevirtual 169, 3) := by decide +kernel
theorem dX0_answerOne_92 : decode cX0_answerOne 92 = .ok (.istore 5, 2) := by decide +kernel
theorem dX0_answerOne_94 : decode cX0_answerOne 94 = .ok (.aload_n 0, 1) := by decide +kernel
theorem dX0_answerOne_95 : decode cX0_answerOne 95 = .ok (.getfield 25, 3) := by decide +kernel
theorem dX0_answerOne_98 : decode cX0_answerOne 98 = .ok (.iload_n 2, 1) := by decide +kernel
theorem dX0_answerOne_99 : decode cX0_answerOne 99 = .ok (.iload 4, 2) := by decide +kernel
theorem dX0_answerOne_101 : decode cX0_answerOne 101 = .ok (.iload 5, 2) := by decide +kernel
theorem dX0_answerOne_103 : decode cX0_answerOne 103 = .ok (.aload_n 0, 1) := by decide +kernel
theorem dX0_answerOne_104 : decode cX0_answerOne 104 = .ok (.getfield 25, 3) := by decide +kernel
theorem dX0_answerOne_107 : decode cX0_answerOne 107 = .ok (.getfield 107, 3) := by decide +kernel
theorem dX0_answerOne_110 : decode cX0_answerOne 110 = .ok (.iload_n 2, 1) := by decide +kernel
theorem dX0_answerOne_111 : decode cX0_answerOne 111 = .ok (.iaload, 1) := by decide +kernel
theorem dX0_answerOne_112 : decode cX0_answerOne 112 = .ok (.bipush 50, 2) := by decide +kernel
theorem dX0_answerOne_114 : decode cX0_answerOne 114 = .ok (.if_icmp .lt 7, 3) := by decide +kernel
theorem dX0_answerOne_117 : decode cX0_answerOne 117 = .ok (.iconst 1, 1) := by decide +kernel
theorem dX0_answerOne_118 : decode cX0_answerOne 118 = .ok (.goto 4, 3) := by decide +kernel
theorem dX0_answerOne_121 : decode cX0_answerOne 121 = .ok (.iconst 0, 1) := by decide +kernel
theorem dX0_answerOne_122 : decode cX0_answerOne 122 = .ok (.iload_n 1, 1) := by decide +kernel
theorem dX0_answerOne_123 : decode cX0_answerOne 123 = .ok (.invokevirtual 110, 3) := by decide +kernel
theorem dX0_answerOne_126 : decode cX0_answerOne 126 = .ok (.istore 6, 2) := by decide +kernel
theorem dX0_answerOne_128 : decode cX0_answerOne 128 = .ok (.iload 6, 2) := by decide +kernel
theorem dX0_answerOne_130 : decode cX0_answerOne 130 = .ok (.iconst (-1), 1) := by decide +kernel
theorem dX0_answerOne_131 : decode cX0_answerOne 131 = .ok (.if_icmp .eq 45, 3) := by decide +kernel
theorem dX0_answerOne_134 : decode cX0_answerOne 134 = .ok (.aload_n 0, 1) := by decide +kernel
theorem dX0_answerOne_135 : decode cX0_answerOne 135 = .ok (.getfield 25, 3) := by decide +kernel
theorem dX0_answerOne_138 : decode cX0_answerOne 138 = .ok (.getfield 182, 3) := by decide +kernel
theorem dX0_answerOne_141 : decode cX0_answerOne 141 = .ok (.iconst 1, 1) := by decide +kernel
theorem dX0_answerOne_142 : decode cX0_answerOne 142 = .ok (.iload_n 2, 1) := by decide +kernel
theorem dX0_answerOne_143 : decode cX0_answerOne 143 = .ok (.isub, 1) := by decide +kernel
theorem dX0_answerOne_144 : decode cX0_answerOne 144 = .ok (.sipush 9999, 3) := by decide +kernel
theorem dX0_answerOne_147 : decode cX0_answerOne 147 = .ok (.aload_n 0, 1) := by decide +kernel
theorem dX0_answerOne_148 : decode cX0_answerOne 148 = .ok (.getfield 25, 3) := by decide +kernel
theorem dX0_answerOne_151 : decode cX0_answerOne 151 = .ok (.getfield 37, 3) := by decide +kernel
theorem dX0_answerOne_154 : decode cX0_answerOne 154 = .ok (.aload_n 0, 1) := by decide +kernel
theorem dX0_answerOne_155 : decode cX0_answerOne 155 = .ok (.getfield 25, 3) := by decide +kernel
theorem dX0_answerOne_158 : decode cX0_answerOne 158 = .ok (.getfield 142, 3) := by decide +kernel
theorem dX0_answerOne_161 : decode cX0_answerOne 161 = .ok (.iload_n 1, 1) := by decide +kernel
theorem dX0_answerOne_162 : decode cX0_answerOne 162 = .ok (.iaload, 1) := by decide +kernel
theorem dX0_answerOne_163 : decode cX0_answerOne 163 = .ok (.isub, 1) := by decide +kernel
theorem dX0_answerOne_164 : decode cX0_answerOne 164 = .ok (.invokestatic 46, 3) := by decide +kernel
theorem dX0_answerOne_167 : decode cX0_answerOne 167 = .ok (.iastore, 1) := by decide +kernel
theorem dX0_answerOne_168 : decode cX0_answerOne 168 = .ok (.aload_n 0, 1) := by decide +kernel
theorem dX0_answerOne_169 : decode cX0_answerOne 169 = .ok (.iconst 2, 1) := by decide +kernel
theorem dX0_answerOne_170 : decode cX0_answerOne 170 = .ok (.iload_n 2, 1) := by decide +kernel
theorem dX0_answerOne_171 : decode cX0_answerOne 171 = .ok (.iload 6, 2) := by decide +kernel
theorem dX0_answerOne_173 : decode cX0_answerOne 173 = .ok (.invokevirtual 114, 3) := by decide +kernel
theorem dX0_answerOne_176 : decode cX0_answerOne 176 = .ok (.return_, 1) := by decide +kernel
theorem dX0_draw_0 : decode cX0_draw 0 = .ok (.aload_n 0, 1) := by decide +kernel
theorem dX0_draw_1 : decode cX0_draw 1 = .ok (.getfield 25, 3) := by decide +kernel
theorem dX0_draw_4 : decode cX0_draw 4 = .ok (.aload_n 0, 1) := by decide +kernel
theorem dX0_draw_5 : decode cX0_draw 5 = .ok (.getfield 25, 3) := by decide +kernel
theorem dX0_draw_8 : decode cX0_draw 8 = .ok (.getfield 185, 3) := by decide +kernel
theorem dX0_draw_11 : decode cX0_draw 11 = .ok (.ldc 188, 2) := by decide +kernel
theorem dX0_draw_13 : decode cX0_draw 13 = .ok (.imul, 1) := by decide +kernel
theorem dX0_draw_14 : decode cX0_draw 14 = .ok (.ldc 189, 2) := by decide +kernel
theorem dX0_draw_16 : decode cX0_draw 16 = .ok (.iadd, 1) := by decide +kernel
theorem dX0_draw_17 : decode cX0_draw 17 = .ok (.putfield 185, 3) := by decide +kernel
theorem dX0_draw_20 : decode cX0_draw 20 = .ok (.iload_n 1, 1) := by decide +kernel
theorem dX0_draw_21 : decode cX0_draw 21 = .ok (.ifCond .le 18, 3) := by decide +kernel
theorem dX0_draw_24 : decode cX0_draw 24 = .ok (.aload_n 0, 1) := by decide +kernel
theorem dX0_draw_25 : decode cX0_draw 25 = .ok (.getfield 25, 3) := by decide +kernel
theorem dX0_draw_28 : decode cX0_draw 28 = .ok (.getfield 185, 3) := by decide +kernel
theorem dX0_draw_31 : decode cX0_draw 31 = .ok (.bipush 8, 2) := by decide +kernel
theorem dX0_draw_33 : decode cX0_draw 33 = .ok (.iushr, 1) := by decide +kernel
theorem dX0_draw_34 : decode cX0_draw 34 = .ok (.iload_n 1, 1) := by decide +kernel
theorem dX0_draw_35 : decode cX0_draw 35 = .ok (.irem, 1) := by decide +kernel
theorem dX0_draw_36 : decode cX0_draw 36 = .ok (.goto 4, 3) := by decide +kernel
theorem dX0_draw_39 : decode cX0_draw 39 = .ok (.iconst 0, 1) := by decide +kernel
theorem dX0_draw_40 : decode cX0_draw 40 = .ok (.ireturn, 1) := by decide +kernel
theorem dX1_init_0 : decode cX1_init 0 = .ok (.aload_n 0, 1) := by decide +kernel
theorem dX1_init_1 : decode cX1_init 1 = .ok (.invokespecial 3, 3) := by decide +kernel
theorem dX1_init_4 : decode cX1_init 4 = .ok (.aload_n 0, 1) := by decide +kernel
theorem dX1_init_5 : decode cX1_init 5 = .ok (.bipush 60, 2) := by decide +kernel
theorem dX1_init_7 : decode cX1_init 7 = .ok (.newarray .int, 2) := by decide +kernel
theorem dX1_init_9 : decode cX1_init 9 = .ok (.putfield 11, 3) := by decide +kernel
theorem dX1_init_12 : decode cX1_init 12 = .ok (.aload_n 0, 1) := by decide +kernel
theorem dX1_init_13 : decode cX1_init 13 = .ok (.bipush 10, 2) := by decide +kernel
theorem dX1_init_15 : decode cX1_init 15 = .ok (.newarray .int, 2) := by decide +kernel
theorem dX1_init_17 : decode cX1_init 17 = .ok (.putfield 17, 3) := by decide +kernel
theorem dX1_init_20 : decode cX1_init 20 = .ok (.aload_n 0, 1) := by decide +kernel
theorem dX1_init_21 : decode cX1_init 21 = .ok (.bipush 60, 2) := by decide +kernel
theorem dX1_init_23 : decode cX1_init 23 = .ok (.newarray .int, 2) := by decide +kernel
theorem dX1_init_25 : decode cX1_init 25 = .ok (.putfield 20, 3) := by decide +kernel
theorem dX1_init_28 : decode cX1_init 28 = .ok (.aload_n 0, 1) := by decide +kernel
theorem dX1_init_29 : decode cX1_init 29 = .ok (.bipush 60, 2) := by decide +kernel
theorem dX1_init_31 : decode cX1_init 31 = .ok (.newarray .int, 2) := by decide +kernel
theorem dX1_init_33 : decode cX1_init 33 = .ok (.putfield 23, 3) := by decide +kernel
theorem dX1_init_36 : decode cX1_init 36 = .ok (.return_, 1) := by decide +kernel
theorem dX1_worthiest_0 : decode cX1_worthiest 0 = .ok (.iconst (-1), 1) := by decide +kernel
theorem dX1_worthiest_1 : decode cX1_worthiest 1 = .ok (.istore_n 3, 1) := by decide +kernel
theorem dX1_worthiest_2 : decode cX1_worthiest 2 = .ok (.iconst (-1), 1) := by decide +kernel
theorem dX1_worthiest_3 : decode cX1_worthiest 3 = .ok (.istore 4, 2) := by decide +kernel
theorem dX1_worthiest_5 : decode cX1_worthiest 5 = .ok (.iconst 0, 1) := by decide +kernel
theorem dX1_worthiest_6 : decode cX1_worthiest 6 = .ok (.istore 5, 2) := by decide +kernel
theorem dX1_worthiest_8 : decode cX1_worthiest 8 = .ok (.iload 5, 2) := by decide +kernel
theorem dX1_worthiest_10 : decode cX1_worthiest 10 = .ok (.aload_n 1, 1) := by decide +kernel
theorem dX1_worthiest_11 : decode cX1_worthiest 11 = .ok (.getfield 26, 3) := by decide +kernel
theorem dX1_worthiest_14 : decode cX1_worthiest 14 = .ok (.if_icmp .ge 53, 3) := by decide +kernel
theorem dX1_worthiest_17 : decode cX1_worthiest 17 = .ok (.aload_n 1, 1) := by decide +kernel
theorem dX1_worthiest_18 : decode cX1_worthiest 18 = .ok (.getfield 30, 3) := by decide +kernel
theorem dX1_worthiest_21 : decode cX1_worthiest 21 = .ok (.iload 5, 2) := by decide +kernel
theorem dX1_worthiest_23 : decode cX1_worthiest 23 = .ok (.iaload, 1) := by decide +kernel
theorem dX1_worthiest_24 : decode cX1_worthiest 24 = .ok (.bipush 10, 2) := by decide +kernel
theorem dX1_worthiest_26 : decode cX1_worthiest 26 = .ok (.aload_n 1, 1) := by decide +kernel
theorem dX1_worthiest_27 : decode cX1_worthiest 27 = .ok (.getfield 33, 3) := by decide +kernel
theorem dX1_worthiest_30 : decode cX1_worthiest 30 = .ok (.iload 5, 2) := by decide +kernel
theorem dX1_worthiest_32 : decode cX1_worthiest 32 = .ok (.iaload, 1) := by decide +kernel
theorem dX1_worthiest_33 : decode cX1_worthiest 33 = .ok (.imul, 1) := by decide +kernel
theorem dX1_worthiest_34 : decode cX1_worthiest 34 = .ok (.iadd, 1) := by decide +kernel
theorem dX1_worthiest_35 : decode cX1_worthiest 35 = .ok (.istore 6, 2) := by decide +kernel
theorem dX1_worthiest_37 : decode cX1_worthiest 37 = .ok (.iload 6, 2) := by decide +kernel
theorem dX1_worthiest_39 : decode cX1_worthiest 39 = .ok (.iload 4, 2) := by decide +kernel
theorem dX1_worthiest_41 : decode cX1_worthiest 41 = .ok (.if_icmp .lt 20, 3) := by decide +kernel
theorem dX1_worthiest_44 : decode cX1_worthiest 44 = .ok (.aload_n 1, 1) := by decide +kernel
theorem dX1_worthiest_45 : decode cX1_worthiest 45 = .ok (.iload_n 2, 1) := by decide +kernel
theorem dX1_worthiest_46 : decode cX1_worthiest 46 = .ok (.iload 5, 2) := by decide +kernel
theorem dX1_worthiest_48 : decode cX1_worthiest 48 = .ok (.invokevirtual 36, 3) := by decide +kernel
theorem dX1_worthiest_51 : decode cX1_worthiest 51 = .ok (.ifCond .eq 10, 3) := by decide +kernel
theorem dX1_worthiest_54 : decode cX1_worthiest 54 = .ok (.iload 6, 2) := by decide +kernel
theorem dX1_worthiest_56 : decode cX1_worthiest 56 = .ok (.istore 4, 2) := by decide +kernel
theorem dX1_worthiest_58 : decode cX1_worthiest 58 = .ok (.iload 5, 2) := by decide +kernel
theorem dX1_worthiest_60 : decode cX1_worthiest 60 = .ok (.istore_n 3, 1) := by decide +kernel
theorem dX1_worthiest_61 : decode cX1_worthiest 61 = .ok (.iinc 5 1, 3) := by decide +kernel
theorem dX1_worthiest_64 : decode cX1_worthiest 64 = .ok (.goto (-56), 3) := by decide +kernel
theorem dX1_worthiest_67 : decode cX1_worthiest 67 = .ok (.iload_n 3, 1) := by decide +kernel
theorem dX1_worthiest_68 : decode cX1_worthiest 68 = .ok (.ireturn, 1) := by decide +kernel
theorem dX1_waiting_0 : decode cX1_waiting 0 = .ok (.iconst 0, 1) := by decide +kernel
theorem dX1_waiting_1 : decode cX1_waiting 1 = .ok (.istore_n 3, 1) := by decide +kernel
theorem dX1_waiting_2 : decode cX1_waiting 2 = .ok (.iconst 0, 1) := by decide +kernel
theorem dX1_waiting_3 : decode cX1_waiting 3 = .ok (.istore 4, 2) := by decide +kernel
theorem dX1_waiting_5 : decode cX1_waiting 5 = .ok (.iload 4, 2) := by decide +kernel
theorem dX1_waiting_7 : decode cX1_waiting 7 = .ok (.aload_n 1, 1) := by decide +kernel
theorem dX1_waiting_8 : decode cX1_waiting 8 = .ok (.getfield 26, 3) := by decide +kernel
theorem dX1_waiting_11 : decode cX1_waiting 11 = .ok (.if_icmp .ge 27, 3) := by decide +kernel
theorem dX1_waiting_14 : decode cX1_waiting 14 = .ok (.iload_n 3, 1) := by decide +kernel
theorem dX1_waiting_15 : decode cX1_waiting 15 = .ok (.aload_n 1, 1) := by decide +kernel
theorem dX1_waiting_16 : decode cX1_waiting 16 = .ok (.iload_n 2, 1) := by decide +kernel
theorem dX1_waiting_17 : decode cX1_waiting 17 = .ok (.iload 4, 2) := by decide +kernel
theorem dX1_waiting_19 : decode cX1_waiting 19 = .ok (.invokevirtual 36, 3) := by decide +kernel
theorem dX1_waiting_22 : decode cX1_waiting 22 = .ok (.ifCond .eq 7, 3) := by decide +kernel
theorem dX1_waiting_25 : decode cX1_waiting 25 = .ok (.iconst 1, 1) := by decide +kernel
theorem dX1_waiting_26 : decode cX1_waiting 26 = .ok (.goto 4, 3) := by decide +kernel
theorem dX1_waiting_29 : decode cX1_waiting 29 = .ok (.iconst 0, 1) := by decide +kernel
theorem dX1_waiting_30 : decode cX1_waiting 30 = .ok (.iadd, 1) := by decide +kernel
theorem dX1_waiting_31 : decode cX1_waiting 31 = .ok (.istore_n 3, 1) := by decide +kernel
theorem dX1_waiting_32 : decode cX1_waiting 32 = .ok (.iinc 4 1, 3) := by decide +kernel
theorem dX1_waiting_35 : decode cX1_waiting 35 = .ok (.goto (-30), 3) := by decide +kernel
theorem dX1_waiting_38 : decode cX1_waiting 38 = .ok (.iload_n 3, 1) := by decide +kernel
theorem dX1_waiting_39 : decode cX1_waiting 39 = .ok (.ireturn, 1) := by decide +kernel
theorem dX1_pauseSum_0 : decode cX1_pauseSum 0 = .ok (.iconst 0, 1) := by decide +kernel
theorem dX1_pauseSum_1 : decode cX1_pauseSum 1 = .ok (.istore_n 3, 1) := by decide +kernel
theorem dX1_pauseSum_2 : decode cX1_pauseSum 2 = .ok (.iconst 0, 1) := by decide +kernel
theorem dX1_pauseSum_3 : decode cX1_pauseSum 3 = .ok (.istore 4, 2) := by decide +kernel
theorem dX1_pauseSum_5 : decode cX1_pauseSum 5 = .ok (.iload 4, 2) := by decide +kernel
theorem dX1_pauseSum_7 : decode cX1_pauseSum 7 = .ok (.aload_n 1, 1) := by decide +kernel
theorem dX1_pauseSum_8 : decode cX1_pauseSum 8 = .ok (.getfield 26, 3) := by decide +kernel
theorem dX1_pauseSum_11 : decode cX1_pauseSum 11 = .ok (.if_icmp .ge 42, 3) := by decide +kernel
theorem dX1_pauseSum_14 : decode cX1_pauseSum 14 = .ok (.iload_n 3, 1) := by decide +kernel
theorem dX1_pauseSum_15 : decode cX1_pauseSum 15 = .ok (.aload_n 1, 1) := by decide +kernel
theorem dX1_pauseSum_16 : decode cX1_pauseSum 16 = .ok (.getfield 40, 3) := by decide +kernel
theorem dX1_pauseSum_19 : decode cX1_pauseSum 19 = .ok (.iload 4, 2) := by decide +kernel
theorem dX1_pauseSum_21 : decode cX1_pauseSum 21 = .ok (.iaload, 1) := by decide +kernel
theorem dX1_pauseSum_22 : decode cX1_pauseSum 22 = .ok (.iload_n 2, 1) := by decide +kernel
theorem dX1_pauseSum_23 : decode cX1_pauseSum 23 = .ok (.if_icmp .ne 21, 3) := by decide +kernel
theorem dX1_pauseSum_26 : decode cX1_pauseSum 26 = .ok (.aload_n 1, 1) := by decide +kernel
theorem dX1_pauseSum_27 : decode cX1_pauseSum 27 = .ok (.iload 4, 2) := by decide +kernel
theorem dX1_pauseSum_29 : decode cX1_pauseSum 29 = .ok (.invokevirtual 43, 3) := by decide +kernel
theorem dX1_pauseSum_32 : decode cX1_pauseSum 32 = .ok (.ifCond .eq 12, 3) := by decide +kernel
theorem dX1_pauseSum_35 : decode cX1_pauseSum 35 = .ok (.aload_n 1, 1) := by decide +kernel
theorem dX1_pauseSum_36 : decode cX1_pauseSum 36 = .ok (.iload 4, 2) := by decide +kernel
theorem dX1_pauseSum_38 : decode cX1_pauseSum 38 = .ok (.invokevirtual 47, 3) := by decide +kernel
theorem dX1_pauseSum_41 : decode cX1_pauseSum 41 = .ok (.goto 4, 3) := by decide +kernel
theorem dX1_pauseSum_44 : decode cX1_pauseSum 44 = .ok (.iconst 0, 1) := by decide +kernel
theorem dX1_pauseSum_45 : decode cX1_pauseSum 45 = .ok (.iadd, 1) := by decide +kernel
theorem dX1_pauseSum_46 : decode cX1_pauseSum 46 = .ok (.istore_n 3, 1) := by decide +kernel
theorem dX1_pauseSum_47 : decode cX1_pauseSum 47 = .ok (.iinc 4 1, 3) := by decide +kernel
theorem dX1_pauseSum_50 : decode cX1_pauseSum 50 = .ok (.goto (-45), 3) := by decide +kernel
theorem dX1_pauseSum_53 : decode cX1_pauseSum 53 = .ok (.iload_n 3, 1) := by decide +kernel
theorem dX1_pauseSum_54 : decode cX1_pauseSum 54 = .ok (.ireturn, 1) := by decide +kernel
theorem dX1_greatestPause_0 : decode cX1_greatestPause 0 = .ok (.iconst 0, 1) := by decide +kernel
theorem dX1_greatestPause_1 : decode cX1_greatestPause 1 = .ok (.istore_n 3, 1) := by decide +kernel
theorem dX1_greatestPause_2 : decode cX1_greatestPause 2 = .ok (.iconst 0, 1) := by decide +kernel
theorem dX1_greatestPause_3 : decode cX1_greatestPause 3 = .ok (.istore 4, 2) := by decide +kernel
theorem dX1_greatestPause_5 : decode cX1_greatestPause 5 = .ok (.iload 4, 2) := by decide +kernel
theorem dX1_greatestPause_7 : decode cX1_greatestPause 7 = .ok (.aload_n 1, 1) := by decide +kernel
theorem dX1_greatestPause_8 : decode cX1_greatestPause 8 = .ok (.getfield 26, 3) := by decide +kernel
theorem dX1_greatestPause_11 : decode cX1_greatestPause 11 = .ok (.if_icmp .ge 40, 3) := by decide +kernel
theorem dX1_greatestPause_14 : decode cX1_greatestPause 14 = .ok (.aload_n 1, 1) := by decide +kernel
theorem dX1_greatestPause_15 : decode cX1_greatestPause 15 = .ok (.getfield 40, 3) := by decide +kernel
theorem dX1_greatestPause_18 : decode cX1_greatestPause 18 = .ok (.iload 4, 2) := by decide +kernel
theorem dX1_greatestPause_20 : decode cX1_greatestPause 20 = .ok (.iaload, 1) := by decide +kernel
theorem dX1_greatestPause_21 : decode cX1_greatestPause 21 = .ok (.iload_n 2, 1) := by decide +kernel
theorem dX1_greatestPause_22 : decode cX1_greatestPause 22 = .ok (.if_icmp .ne 23, 3) := by decide +kernel
theorem dX1_greatestPause_25 : decode cX1_greatestPause 25 = .ok (.aload_n 1, 1) := by decide +kernel
theorem dX1_greatestPause_26 : decode cX1_greatestPause 26 = .ok (.iload 4, 2) := by decide +kernel
theorem dX1_greatestPause_28 : decode cX1_greatestPause 28 = .ok (.invokevirtual 43, 3) := by decide +kernel
theorem dX1_greatestPause_31 : decode cX1_greatestPause 31 = .ok (.ifCond .eq 14, 3) := by decide +kernel
theorem dX1_greatestPause_34 : decode cX1_greatestPause 34 = .ok (.iload_n 3, 1) := by decide +kernel
theorem dX1_greatestPause_35 : decode cX1_greatestPause 35 = .ok (.aload_n 1, 1) := by decide +kernel
theorem dX1_greatestPause_36 : decode cX1_greatestPause 36 = .ok (.iload 4, 2) := by decide +kernel
theorem dX1_greatestPause_38 : decode cX1_greatestPause 38 = .ok (.invokevirtual 47, 3) := by decide +kernel
theorem dX1_greatestPause_41 : decode cX1_greatestPause 41 = .ok (.invokestatic 51, 3) := by decide +kernel
theorem dX1_greatestPause_44 : decode cX1_greatestPause 44 = .ok (.istore_n 3, 1) := by decide +kernel
theorem dX1_greatestPause_45 : decode cX1_greatestPause 45 = .ok (.iinc 4 1, 3) := by decide +kernel
theorem dX1_greatestPause_48 : decode cX1_greatestPause 48 = .ok (.goto (-43), 3) := by decide +kernel
theorem dX1_greatestPause_51 : decode cX1_greatestPause 51 = .ok (.iload_n 3, 1) := by decide +kernel
theorem dX1_greatestPause_52 : decode cX1_greatestPause 52 = .ok (.ireturn, 1) := by decide +kernel
theorem dX1_longestFall_0 : decode cX1_longestFall 0 = .ok (.iconst 0, 1) := by decide +kernel
theorem dX1_longestFall_1 : decode cX1_longestFall 1 = .ok (.istore_n 3, 1) := by decide +kernel
theorem dX1_longestFall_2 : decode cX1_longestFall 2 = .ok (.iload_n 3, 1) := by decide +kernel
theorem dX1_longestFall_3 : decode cX1_longestFall 3 = .ok (.aload_n 0, 1) := by decide +kernel
theorem dX1_longestFall_4 : decode cX1_longestFall 4 = .ok (.getfield 17, 3) := by decide +kernel
theorem dX1_longestFall_7 : decode cX1_longestFall 7 = .ok (.arraylength, 1) := by decide +kernel
theorem dX1_longestFall_8 : decode cX1_longestFall 8 = .ok (.if_icmp .ge 16, 3) := by decide +kernel
theorem dX1_longestFall_11 : decode cX1_longestFall 11 = .ok (.aload_n 0, 1) := by decide +kernel
theorem dX1_longestFall_12 : decode cX1_longestFall 12 = .ok (.getfield 17, 3) := by decide +kernel
theorem dX1_longestFall_15 : decode cX1_longestFall 15 = .ok (.iload_n 3, 1) := by decide +kernel
theorem dX1_longestFall_16 : decode cX1_longestFall 16 = .ok (.iconst 0, 1) := by decide +kernel
theorem dX1_longestFall_17 : decode cX1_longestFall 17 = .ok (.iastore, 1) := by decide +kernel
theorem dX1_longestFall_18 : decode cX1_longestFall 18 = .ok (.iinc 3 1, 3) := by decide +kernel
theorem dX1_longestFall_21 : decode cX1_longestFall 21 = .ok (.goto (-19), 3) := by decide +kernel
theorem dX1_longestFall_24 : decode cX1_longestFall 24 = .ok (.iconst 0, 1) := by decide +kernel
theorem dX1_longestFall_25 : decode cX1_longestFall 25 = .ok (.istore_n 3, 1) := by decide +kernel
theorem dX1_longestFall_26 : decode cX1_longestFall 26 = .ok (.iconst 0, 1) := by decide +kernel
theorem dX1_longestFall_27 : decode cX1_longestFall 27 = .ok (.istore 4, 2) := by decide +kernel
theorem dX1_longestFall_29 : decode cX1_longestFall 29 = .ok (.iload 4, 2) := by decide +kernel
theorem dX1_longestFall_31 : decode cX1_longestFall 31 = .ok (.aload_n 1, 1) := by decide +kernel
theorem dX1_longestFall_32 : decode cX1_longestFall 32 = .ok (.getfield 26, 3) := by decide +kernel
theorem dX1_longestFall_35 : decode cX1_longestFall 35 = .ok (.if_icmp .ge 123, 3) := by decide +kernel
theorem dX1_longestFall_38 : decode cX1_longestFall 38 = .ok (.aload_n 1, 1) := by decide +kernel
theorem dX1_longestFall_39 : decode cX1_longestFall 39 = .ok (.getfield 33, 3) := by decide +kernel
theorem dX1_longestFall_42 : decode cX1_longestFall 42 = .ok (.iload 4, 2) := by decide +kernel
theorem dX1_longestFall_44 : decode cX1_longestFall 44 = .ok (.iaload, 1) := by decide +kernel
theorem dX1_longestFall_45 : decode cX1_longestFall 45 = .ok (.istore 5, 2) := by decide +kernel
theorem dX1_longestFall_47 : decode cX1_longestFall 47 = .ok (.aload_n 1, 1) := by decide +kernel
theorem dX1_longestFall_48 : decode cX1_longestFall 48 = .ok (.getfield 40, 3) := by decide +kernel
theorem dX1_longestFall_51 : decode cX1_longestFall 51 = .ok (.iload 4, 2) := by decide +kernel
theorem dX1_longestFall_53 : decode cX1_longestFall 53 = .ok (.iaload, 1) := by decide +kernel
theorem dX1_longestFall_54 : decode cX1_longestFall 54 = .ok (.iload_n 2, 1) := by decide +kernel
theorem dX1_longestFall_55 : decode cX1_longestFall 55 = .ok (.if_icmp .ne 97, 3) := by decide +kernel
theorem dX1_longestFall_58 : decode cX1_longestFall 58 = .ok (.aload_n 1, 1) := by decide +kernel
theorem dX1_longestFall_59 : decode cX1_longestFall 59 = .ok (.getfield 57, 3) := by decide +kernel
theorem dX1_longestFall_62 : decode cX1_longestFall 62 = .ok (.iload 4, 2) := by decide +kernel
theorem dX1_longestFall_64 : decode cX1_longestFall 64 = .ok (.iaload, 1) := by decide +kernel
theorem dX1_longestFall_65 : decode cX1_longestFall 65 = .ok (.ifCond .ne 87, 3) := by decide +kernel
theorem dX1_longestFall_68 : decode cX1_longestFall 68 = .ok (.iload 5, 2) := by decide +kernel
theorem dX1_longestFall_70 : decode cX1_longestFall 70 = .ok (.ifCond .lt 82, 3) := by decide +kernel
theorem dX1_longestFall_73 : decode cX1_longestFall 73 = .ok (.iload 5, 2) := by decide +kernel
theorem dX1_longestFall_75 : decode cX1_longestFall 75 = .ok (.aload_n 0, 1) := by decide +kernel
theorem dX1_longestFall_76 : decode cX1_longestFall 76 = .ok (.getfield 17, 3) := by decide +kernel
theorem dX1_longestFall_79 : decode cX1_longestFall 79 = .ok (.arraylength, 1) := by decide +kernel
theorem dX1_longestFall_80 : decode cX1_longestFall 80 = .ok (.if_icmp .ge 72, 3) := by decide +kernel
theorem dX1_longestFall_83 : decode cX1_longestFall 83 = .ok (.iconst 0, 1) := by decide +kernel
theorem dX1_longestFall_84 : decode cX1_longestFall 84 = .ok (.istore 6, 2) := by decide +kernel
theorem dX1_longestFall_86 : decode cX1_longestFall 86 = .ok (.iload 5, 2) := by decide +kernel
theorem dX1_longestFall_88 : decode cX1_longestFall 88 = .ok (.iconst 1, 1) := by decide +kernel
theorem dX1_longestFall_89 : decode cX1_longestFall 89 = .ok (.iadd, 1) := by decide +kernel
theorem dX1_longestFall_90 : decode cX1_longestFall 90 = .ok (.istore 7, 2) := by decide +kernel
theorem dX1_longestFall_92 : decode cX1_longestFall 92 = .ok (.iload 7, 2) := by decide +kernel
theorem dX1_longestFall_94 : decode cX1_longestFall 94 = .ok (.aload_n 0, 1) := by decide +kernel
theorem dX1_longestFall_95 : decode cX1_longestFall 95 = .ok (.getfield 17, 3) := by decide +kernel
theorem dX1_longestFall_98 : decode cX1_longestFall 98 = .ok (.arraylength, 1) := by decide +kernel
theorem dX1_longestFall_99 : decode cX1_longestFall 99 = .ok (.if_icmp .ge 23, 3) := by decide +kernel
theorem dX1_longestFall_102 : decode cX1_longestFall 102 = .ok (.iload 6, 2) := by decide +kernel
theorem dX1_longestFall_104 : decode cX1_longestFall 104 = .ok (.aload_n 0, 1) := by decide +kernel
theorem dX1_longestFall_105 : decode cX1_longestFall 105 = .ok (.getfield 17, 3) := by decide +kernel
theorem dX1_longestFall_108 : decode cX1_longestFall 108 = .ok (.iload 7, 2) := by decide +kernel
theorem dX1_longestFall_110 : decode cX1_longestFall 110 = .ok (.iaload, 1) := by decide +kernel
theorem dX1_longestFall_111 : decode cX1_longestFall 111 = .ok (.invokestatic 51, 3) := by decide +kernel
theorem dX1_longestFall_114 : decode cX1_longestFall 114 = .ok (.istore 6, 2) := by decide +kernel
theorem dX1_longestFall_116 : decode cX1_longestFall 116 = .ok (.iinc 7 1, 3) := by decide +kernel
theorem dX1_longestFall_119 : decode cX1_longestFall 119 = .ok (.goto (-27), 3) := by decide +kernel
theorem dX1_longestFall_122 : decode cX1_longestFall 122 = .ok (.aload_n 0, 1) := by decide +kernel
theorem dX1_longestFall_123 : decode cX1_longestFall 123 = .ok (.getfield 17, 3) := by decide +kernel
theorem dX1_longestFall_126 : decode cX1_longestFall 126 = .ok (.iload 5, 2) := by decide +kernel
theorem dX1_longestFall_128 : decode cX1_longestFall 128 = .ok (.aload_n 0, 1) := by decide +kernel
theorem dX1_longestFall_129 : decode cX1_longestFall 129 = .ok (.getfield 17, 3) := by decide +kernel
theorem dX1_longestFall_132 : decode cX1_longestFall 132 = .ok (.iload 5, 2) := by decide +kernel
theorem dX1_longestFall_134 : decode cX1_longestFall 134 = .ok (.iaload, 1) := by decide +kernel
theorem dX1_longestFall_135 : decode cX1_longestFall 135 = .ok (.iload 6, 2) := by decide +kernel
theorem dX1_longestFall_137 : decode cX1_longestFall 137 = .ok (.iconst 1, 1) := by decide +kernel
theorem dX1_longestFall_138 : decode cX1_longestFall 138 = .ok (.iadd, 1) := by decide +kernel
theorem dX1_longestFall_139 : decode cX1_longestFall 139 = .ok (.invokestatic 51, 3) := by decide +kernel
theorem dX1_longestFall_142 : decode cX1_longestFall 142 = .ok (.iastore, 1) := by decide +kernel
theorem dX1_longestFall_143 : decode cX1_longestFall 143 = .ok (.iload_n 3, 1) := by decide +kernel
theorem dX1_longestFall_144 : decode cX1_longestFall 144 = .ok (.iload 6, 2) := by decide +kernel
theorem dX1_longestFall_146 : decode cX1_longestFall 146 = .ok (.iconst 1, 1) := by decide +kernel
theorem dX1_longestFall_147 : decode cX1_longestFall 147 = .ok (.iadd, 1) := by decide +kernel
theorem dX1_longestFall_148 : decode cX1_longestFall 148 = .ok (.invokestatic 51, 3) := by decide +kernel
theorem dX1_longestFall_151 : decode cX1_longestFall 151 = .ok (.istore_n 3, 1) := by decide +kernel
theorem dX1_longestFall_152 : decode cX1_longestFall 152 = .ok (.iinc 4 1, 3) := by decide +kernel
theorem dX1_longestFall_155 : decode cX1_longestFall 155 = .ok (.goto (-126), 3) := by decide +kernel
theorem dX1_longestFall_158 : decode cX1_longestFall 158 = .ok (.iload_n 3, 1) := by decide +kernel
theorem dX1_longestFall_159 : decode cX1_longestFall 159 = .ok (.ireturn, 1) := by decide +kernel
theorem dX1_risesLessFalls_0 : decode cX1_risesLessFalls 0 = .ok (.iconst 0, 1) := by decide +kernel
theorem dX1_risesLessFalls_1 : decode cX1_risesLessFalls 1 = .ok (.istore_n 3, 1) := by decide +kernel
theorem dX1_risesLessFalls_2 : decode cX1_risesLessFalls 2 = .ok (.iconst (-1), 1) := by decide +kernel
theorem dX1_risesLessFalls_3 : decode cX1_risesLessFalls 3 = .ok (.istore 4, 2) := by decide +kernel
theorem dX1_risesLessFalls_5 : decode cX1_risesLessFalls 5 = .ok (.iconst 0, 1) := by decide +kernel
theorem dX1_risesLessFalls_6 : decode cX1_risesLessFalls 6 = .ok (.istore 5, 2) := by decide +kernel
theorem dX1_risesLessFalls_8 : decode cX1_risesLessFalls 8 = .ok (.iload 5, 2) := by decide +kernel
theorem dX1_risesLessFalls_10 : decode cX1_risesLessFalls 10 = .ok (.aload_n 1, 1) := by decide +kernel
theorem dX1_risesLessFalls_11 : decode cX1_risesLessFalls 11 = .ok (.getfield 26, 3) := by decide +kernel
theorem dX1_risesLessFalls_14 : decode cX1_risesLessFalls 14 = .ok (.if_icmp .ge 64, 3) := by decide +kernel
theorem dX1_risesLessFalls_17 : decode cX1_risesLessFalls 17 = .ok (.aload_n 1, 1) := by decide +kernel
theorem dX1_risesLessFalls_18 : decode cX1_risesLessFalls 18 = .ok (.getfield 40, 3) := by decide +kernel
theorem dX1_risesLessFalls_21 : decode cX1_risesLessFalls 21 = .ok (.iload 5, 2) := by decide +kernel
theorem dX1_risesLessFalls_23 : decode cX1_risesLessFalls 23 = .ok (.iaload, 1) := by decide +kernel
theorem dX1_risesLessFalls_24 : decode cX1_risesLessFalls 24 = .ok (.iload_n 2, 1) := by decide +kernel
theorem dX1_risesLessFalls_25 : decode cX1_risesLessFalls 25 = .ok (.if_icmp .ne 47, 3) := by decide +kernel
theorem dX1_risesLessFalls_28 : decode cX1_risesLessFalls 28 = .ok (.aload_n 1, 1) := by decide +kernel
theorem dX1_risesLessFalls_29 : decode cX1_risesLessFalls 29 = .ok (.getfield 57, 3) := by decide +kernel
theorem dX1_risesLessFalls_32 : decode cX1_risesLessFalls 32 = .ok (.iload 5, 2) := by decide +kernel
theorem dX1_risesLessFalls_34 : decode cX1_risesLessFalls 34 = .ok (.iaload, 1) := by decide +kernel
theorem dX1_risesLessFalls_35 : decode cX1_risesLessFalls 35 = .ok (.ifCond .ne 37, 3) := by decide +kernel
theorem dX1_risesLessFalls_38 : decode cX1_risesLessFalls 38 = .ok (.iload_n 3, 1) := by decide +kernel
theorem dX1_risesLessFalls_39 : decode cX1_risesLessFalls 39 = .ok (.iload 4, 2) := by decide +kernel
theorem dX1_risesLessFalls_41 : decode cX1_risesLessFalls 41 = .ok (.iconst (-1), 1) := by decide +kernel
theorem dX1_risesLessFalls_42 : decode cX1_risesLessFalls 42 = .ok (.if_icmp .ne 7, 3) := by decide +kernel
theorem dX1_risesLessFalls_45 : decode cX1_risesLessFalls 45 = .ok (.iconst 0, 1) := by decide +kernel
theorem dX1_risesLessFalls_46 : decode cX1_risesLessFalls 46 = .ok (.goto 20, 3) := by decide +kernel
theorem dX1_risesLessFalls_49 : decode cX1_risesLessFalls 49 = .ok (.aload_n 1, 1) := by decide +kernel
theorem dX1_risesLessFalls_50 : decode cX1_risesLessFalls 50 = .ok (.getfield 33, 3) := by decide +kernel
theorem dX1_risesLessFalls_53 : decode cX1_risesLessFalls 53 = .ok (.iload 5, 2) := by decide +kernel
theorem dX1_risesLessFalls_55 : decode cX1_risesLessFalls 55 = .ok (.iaload, 1) := by decide +kernel
theorem dX1_risesLessFalls_56 : decode cX1_risesLessFalls 56 = .ok (.aload_n 1, 1) := by decide +kernel
theorem dX1_risesLessFalls_57 : decode cX1_risesLessFalls 57 = .ok (.getfield 33, 3) := by decide +kernel
theorem dX1_risesLessFalls_60 : decode cX1_risesLessFalls 60 = .ok (.iload 4, 2) := by decide +kernel
theorem dX1_risesLessFalls_62 : decode cX1_risesLessFalls 62 = .ok (.iaload, 1) := by decide +kernel
theorem dX1_risesLessFalls_63 : decode cX1_risesLessFalls 63 = .ok (.invokestatic 60, 3) := by decide +kernel
theorem dX1_risesLessFalls_66 : decode cX1_risesLessFalls 66 = .ok (.iadd, 1) := by decide +kernel
theorem dX1_risesLessFalls_67 : decode cX1_risesLessFalls 67 = .ok (.istore_n 3, 1) := by decide +kernel
theorem dX1_risesLessFalls_68 : decode cX1_risesLessFalls 68 = .ok (.iload 5, 2) := by decide +kernel
theorem dX1_risesLessFalls_70 : decode cX1_risesLessFalls 70 = .ok (.istore 4, 2) := by decide +kernel
theorem dX1_risesLessFalls_72 : decode cX1_risesLessFalls 72 = .ok (.iinc 5 1, 3) := by decide +kernel
theorem dX1_risesLessFalls_75 : decode cX1_risesLessFalls 75 = .ok (.goto (-67), 3) := by decide +kernel
theorem dX1_risesLessFalls_78 : decode cX1_risesLessFalls 78 = .ok (.iload_n 3, 1) := by decide +kernel
theorem dX1_risesLessFalls_79 : decode cX1_risesLessFalls 79 = .ok (.ireturn, 1) := by decide +kernel
theorem dX1_gameWorth_0 : decode cX1_gameWorth 0 = .ok (.iconst 0, 1) := by decide +kernel
theorem dX1_gameWorth_1 : decode cX1_gameWorth 1 = .ok (.istore_n 2, 1) := by decide +kernel
theorem dX1_gameWorth_2 : decode cX1_gameWorth 2 = .ok (.iconst 0, 1) := by decide +kernel
theorem dX1_gameWorth_3 : decode cX1_gameWorth 3 = .ok (.istore_n 3, 1) := by decide +kernel
theorem dX1_gameWorth_4 : decode cX1_gameWorth 4 = .ok (.iload_n 3, 1) := by decide +kernel
theorem dX1_gameWorth_5 : decode cX1_gameWorth 5 = .ok (.aload_n 1, 1) := by decide +kernel
theorem dX1_gameWorth_6 : decode cX1_gameWorth 6 = .ok (.getfield 26, 3) := by decide +kernel
theorem dX1_gameWorth_9 : decode cX1_gameWorth 9 = .ok (.if_icmp .ge 35, 3) := by decide +kernel
theorem dX1_gameWorth_12 : decode cX1_gameWorth 12 = .ok (.aload_n 1, 1) := by decide +kernel
theorem dX1_gameWorth_13 : decode cX1_gameWorth 13 = .ok (.iload_n 3, 1) := by decide +kernel
theorem dX1_gameWorth_14 : decode cX1_gameWorth 14 = .ok (.invokevirtual 65, 3) := by decide +kernel
theorem dX1_gameWorth_17 : decode cX1_gameWorth 17 = .ok (.ifCond .eq 21, 3) := by decide +kernel
theorem dX1_gameWorth_20 : decode cX1_gameWorth 20 = .ok (.iload_n 2, 1) := by decide +kernel
theorem dX1_gameWorth_21 : decode cX1_gameWorth 21 = .ok (.aload_n 1, 1) := by decide +kernel
theorem dX1_gameWorth_22 : decode cX1_gameWorth 22 = .ok (.getfield 30, 3) := by decide +kernel
theorem dX1_gameWorth_25 : decode cX1_gameWorth 25 = .ok (.iload_n 3, 1) := by decide +kernel
theorem dX1_gameWorth_26 : decode cX1_gameWorth 26 = .ok (.iaload, 1) := by decide +kernel
theorem dX1_gameWorth_27 : decode cX1_gameWorth 27 = .ok (.aload_n 1, 1) := by decide +kernel
theorem dX1_gameWorth_28 : decode cX1_gameWorth 28 = .ok (.getfield 33, 3) := by decide +kernel
theorem dX1_gameWorth_31 : decode cX1_gameWorth 31 = .ok (.iload_n 3, 1) := by decide +kernel
theorem dX1_gameWorth_32 : decode cX1_gameWorth 32 = .ok (.iaload, 1) := by decide +kernel
theorem dX1_gameWorth_33 : decode cX1_gameWorth 33 = .ok (.invokestatic 68, 3) := by decide +kernel
theorem dX1_gameWorth_36 : decode cX1_gameWorth 36 = .ok (.ixor, 1) := by decide +kernel
theorem dX1_gameWorth_37 : decode cX1_gameWorth 37 = .ok (.istore_n 2, 1) := by decide +kernel
theorem dX1_gameWorth_38 : decode cX1_gameWorth 38 = .ok (.iinc 3 1, 3) := by decide +kernel
theorem dX1_gameWorth_41 : decode cX1_gameWorth 41 = .ok (.goto (-37), 3) := by decide +kernel
theorem dX1_gameWorth_44 : decode cX1_gameWorth 44 = .ok (.iload_n 2, 1) := by decide +kernel
theorem dX1_gameWorth_45 : decode cX1_gameWorth 45 = .ok (.ireturn, 1) := by decide +kernel
theorem dX1_winningTake_0 : decode cX1_winningTake 0 = .ok (.iload_n 3, 1) := by decide +kernel
theorem dX1_winningTake_1 : decode cX1_winningTake 1 = .ok (.aload_n 1, 1) := by decide +kernel
theorem dX1_winningTake_2 : decode cX1_winningTake 2 = .ok (.getfield 30, 3) := by decide +kernel
theorem dX1_winningTake_5 : decode cX1_winningTake 5 = .ok (.iload_n 2, 1) := by decide +kernel
theorem dX1_winningTake_6 : decode cX1_winningTake 6 = .ok (.iaload, 1) := by decide +kernel
theorem dX1_winningTake_7 : decode cX1_winningTake 7 = .ok (.aload_n 1, 1) := by decide +kernel
theorem dX1_winningTake_8 : decode cX1_winningTake 8 = .ok (.getfield 33, 3) := by decide +kernel
theorem dX1_winningTake_11 : decode cX1_winningTake 11 = .ok (.iload_n 2, 1) := by decide +kernel
theorem dX1_winningTake_12 : decode cX1_winningTake 12 = .ok (.iaload, 1) := by decide +kernel
theorem dX1_winningTake_13 : decode cX1_winningTake 13 = .ok (.invokestatic 68, 3) := by decide +kernel
theorem dX1_winningTake_16 : decode cX1_winningTake 16 = .ok (.ixor, 1) := by decide +kernel
theorem dX1_winningTake_17 : decode cX1_winningTake 17 = .ok (.istore 4, 2) := by decide +kernel
theorem dX1_winningTake_19 : decode cX1_winningTake 19 = .ok (.aload_n 1, 1) := by decide +kernel
theorem dX1_winningTake_20 : decode cX1_winningTake 20 = .ok (.getfield 33, 3) := by decide +kernel
theorem dX1_winningTake_23 : decode cX1_winningTake 23 = .ok (.iload_n 2, 1) := by decide +kernel
theorem dX1_winningTake_24 : decode cX1_winningTake 24 = .ok (.iaload, 1) := by decide +kernel
theorem dX1_winningTake_25 : decode cX1_winningTake 25 = .ok (.iconst 1, 1) := by decide +kernel
theorem dX1_winningTake_26 : decode cX1_winningTake 26 = .ok (.iadd, 1) := by decide +kernel
theorem dX1_winningTake_27 : decode cX1_winningTake 27 = .ok (.aload_n 1, 1) := by decide +kernel
theorem dX1_winningTake_28 : decode cX1_winningTake 28 = .ok (.getfield 30, 3) := by decide +kernel
theorem dX1_winningTake_31 : decode cX1_winningTake 31 = .ok (.iload_n 2, 1) := by decide +kernel
theorem dX1_winningTake_32 : decode cX1_winningTake 32 = .ok (.iaload, 1) := by decide +kernel
theorem dX1_winningTake_33 : decode cX1_winningTake 33 = .ok (.invokestatic 71, 3) := by decide +kernel
theorem dX1_winningTake_36 : decode cX1_winningTake 36 = .ok (.istore 5, 2) := by decide +kernel
theorem dX1_winningTake_38 : decode cX1_winningTake 38 = .ok (.iconst 1, 1) := by decide +kernel
theorem dX1_winningTake_39 : decode cX1_winningTake 39 = .ok (.istore 6, 2) := by decide +kernel
theorem dX1_winningTake_41 : decode cX1_winningTake 41 = .ok (.iload 6, 2) := by decide +kernel
theorem dX1_winningTake_43 : decode cX1_winningTake 43 = .ok (.iload 5, 2) := by decide +kernel
theorem dX1_winningTake_45 : decode cX1_winningTake 45 = .ok (.if_icmp .gt 35, 3) := by decide +kernel
theorem dX1_winningTake_48 : decode cX1_winningTake 48 = .ok (.aload_n 1, 1) := by decide +kernel
theorem dX1_winningTake_49 : decode cX1_winningTake 49 = .ok (.getfield 30, 3) := by decide +kernel
theorem dX1_winningTake_52 : decode cX1_winningTake 52 = .ok (.iload_n 2, 1) := by decide +kernel
theorem dX1_winningTake_53 : decode cX1_winningTake 53 = .ok (.iaload, 1) := by decide +kernel
theorem dX1_winningTake_54 : decode cX1_winningTake 54 = .ok (.iload 6, 2) := by decide +kernel
theorem dX1_winningTake_56 : decode cX1_winningTake 56 = .ok (.isub, 1) := by decide +kernel
theorem dX1_winningTake_57 : decode cX1_winningTake 57 = .ok (.aload_n 1, 1) := by decide +kernel
theorem dX1_winningTake_58 : decode cX1_winningTake 58 = .ok (.getfield 33, 3) := by decide +kernel
theorem dX1_winningTake_61 : decode cX1_winningTake 61 = .ok (.iload_n 2, 1) := by decide +kernel
theorem dX1_winningTake_62 : decode cX1_winningTake 62 = .ok (.iaload, 1) := by decide +kernel
theorem dX1_winningTake_63 : decode cX1_winningTake 63 = .ok (.invokestatic 68, 3) := by decide +kernel
theorem dX1_winningTake_66 : decode cX1_winningTake 66 = .ok (.iload 4, 2) := by decide +kernel
theorem dX1_winningTake_68 : decode cX1_winningTake 68 = .ok (.if_icmp .ne 6, 3) := by decide +kernel
theorem dX1_winningTake_71 : decode cX1_winningTake 71 = .ok (.iload 6, 2) := by decide +kernel
theorem dX1_winningTake_73 : decode cX1_winningTake 73 = .ok (.ireturn, 1) := by decide +kernel
theorem dX1_winningTake_74 : decode cX1_winningTake 74 = .ok (.iinc 6 1, 3) := by decide +kernel
theorem dX1_winningTake_77 : decode cX1_winningTake 77 = .ok (.goto (-36), 3) := by decide +kernel
theorem dX1_winningTake_80 : decode cX1_winningTake 80 = .ok (.iconst (-1), 1) := by decide +kernel
theorem dX1_winningTake_81 : decode cX1_winningTake 81 = .ok (.ireturn, 1) := by decide +kernel
theorem dX1_heapWorth_0 : decode cX1_heapWorth 0 = .ok (.iload_n 1, 1) := by decide +kernel
theorem dX1_heapWorth_1 : decode cX1_heapWorth 1 = .ok (.ifCond .lt 11, 3) := by decide +kernel
theorem dX1_heapWorth_4 : decode cX1_heapWorth 4 = .ok (.iload_n 0, 1) := by decide +kernel
theorem dX1_heapWorth_5 : decode cX1_heapWorth 5 = .ok (.iload_n 1, 1) := by decide +kernel
theorem dX1_heapWorth_6 : decode cX1_heapWorth 6 = .ok (.iconst 2, 1) := by decide +kernel
theorem dX1_heapWorth_7 : decode cX1_heapWorth 7 = .ok (.iadd, 1) := by decide +kernel
theorem dX1_heapWorth_8 : decode cX1_heapWorth 8 = .ok (.irem, 1) := by decide +kernel
theorem dX1_heapWorth_9 : decode cX1_heapWorth 9 = .ok (.goto 4, 3) := by decide +kernel
theorem dX1_heapWorth_12 : decode cX1_heapWorth 12 = .ok (.iconst 0, 1) := by decide +kernel
theorem dX1_heapWorth_13 : decode cX1_heapWorth 13 = .ok (.ireturn, 1) := by decide +kernel
theorem dX1_dearest_0 : decode cX1_dearest 0 = .ok (.iconst 0, 1) := by decide +kernel
theorem dX1_dearest_1 : decode cX1_dearest 1 = .ok (.istore_n 2, 1) := by decide +kernel
theorem dX1_dearest_2 : decode cX1_dearest 2 = .ok (.iload_n 2, 1) := by decide +kernel
theorem dX1_dearest_3 : decode cX1_dearest 3 = .ok (.aload_n 1, 1) := by decide +kernel
theorem dX1_dearest_4 : decode cX1_dearest 4 = .ok (.getfield 26, 3) := by decide +kernel
theorem dX1_dearest_7 : decode cX1_dearest 7 = .ok (.if_icmp .ge 16, 3) := by decide +kernel
theorem dX1_dearest_10 : decode cX1_dearest 10 = .ok (.aload_n 0, 1) := by decide +kernel
theorem dX1_dearest_11 : decode cX1_dearest 11 = .ok (.getfield 11, 3) := by decide +kernel
theorem dX1_dearest_14 : decode cX1_dearest 14 = .ok (.iload_n 2, 1) := by decide +kernel
theorem dX1_dearest_15 : decode cX1_dearest 15 = .ok (.iconst 0, 1) := by decide +kernel
theorem dX1_dearest_16 : decode cX1_dearest 16 = .ok (.iastore, 1) := by decide +kernel
theorem dX1_dearest_17 : decode cX1_dearest 17 = .ok (.iinc 2 1, 3) := by decide +kernel
theorem dX1_dearest_20 : decode cX1_dearest 20 = .ok (.goto (-18), 3) := by decide +kernel
theorem dX1_dearest_23 : decode cX1_dearest 23 = .ok (.iconst (-1), 1) := by decide +kernel
theorem dX1_dearest_24 : decode cX1_dearest 24 = .ok (.istore_n 2, 1) := by decide +kernel
theorem dX1_dearest_25 : decode cX1_dearest 25 = .ok (.aload_n 1, 1) := by decide +kernel
theorem dX1_dearest_26 : decode cX1_dearest 26 = .ok (.getfield 26, 3) := by decide +kernel
theorem dX1_dearest_29 : decode cX1_dearest 29 = .ok (.iconst 1, 1) := by decide +kernel
theorem dX1_dearest_30 : decode cX1_dearest 30 = .ok (.isub, 1) := by decide +kernel
theorem dX1_dearest_31 : decode cX1_dearest 31 = .ok (.istore_n 3, 1) := by decide +kernel
theorem dX1_dearest_32 : decode cX1_dearest 32 = .ok (.iload_n 3, 1) := by decide +kernel
theorem dX1_dearest_33 : decode cX1_dearest 33 = .ok (.ifCond .lt 101, 3) := by decide +kernel
theorem dX1_dearest_36 : decode cX1_dearest 36 = .ok (.aload_n 1, 1) := by decide +kernel
theorem dX1_dearest_37 : decode cX1_dearest 37 = .ok (.getfield 57, 3) := by decide +kernel
theorem dX1_dearest_40 : decode cX1_dearest 40 = .ok (.iload_n 3, 1) := by decide +kernel
theorem dX1_dearest_41 : decode cX1_dearest 41 = .ok (.iaload, 1) := by decide +kernel
theorem dX1_dearest_42 : decode cX1_dearest 42 = .ok (.ifCond .ne 86, 3) := by decide +kernel
theorem dX1_dearest_45 : decode cX1_dearest 45 = .ok (.aload_n 0, 1) := by decide +kernel
theorem dX1_dearest_46 : decode cX1_dearest 46 = .ok (.getfield 11, 3) := by decide +kernel
theorem dX1_dearest_49 : decode cX1_dearest 49 = .ok (.iload_n 3, 1) := by decide +kernel
theorem dX1_dearest_50 : decode cX1_dearest 50 = .ok (.dup2, 1) := by decide +kernel
theorem dX1_dearest_51 : decode cX1_dearest 51 = .ok (.iaload, 1) := by decide +kernel
theorem dX1_dearest_52 : decode cX1_dearest 52 = .ok (.aload_n 1, 1) := by decide +kernel
theorem dX1_dearest_53 : decode cX1_dearest 53 = .ok (.getfield 33, 3) := by decide +kernel
theorem dX1_dearest_56 : decode cX1_dearest 56 = .ok (.iload_n 3, 1) := by decide +kernel
theorem dX1_dearest_57 : decode cX1_dearest 57 = .ok (.iaload, 1) := by decide +kernel
theorem dX1_dearest_58 : decode cX1_dearest 58 = .ok (.iadd, 1) := by decide +kernel
theorem dX1_dearest_59 : decode cX1_dearest 59 = .ok (.iastore, 1) := by decide +kernel
theorem dX1_dearest_60 : decode cX1_dearest 60 = .ok (.aload_n 1, 1) := by decide +kernel
theorem dX1_dearest_61 : decode cX1_dearest 61 = .ok (.getfield 74, 3) := by decide +kernel
theorem dX1_dearest_64 : decode cX1_dearest 64 = .ok (.iload_n 3, 1) := by decide +kernel
theorem dX1_dearest_65 : decode cX1_dearest 65 = .ok (.iaload, 1) := by decide +kernel
theorem dX1_dearest_66 : decode cX1_dearest 66 = .ok (.istore 4, 2) := by decide +kernel
theorem dX1_dearest_68 : decode cX1_dearest 68 = .ok (.iload 4, 2) := by decide +kernel
theorem dX1_dearest_70 : decode cX1_dearest 70 = .ok (.ifCond .lt 32, 3) := by decide +kernel
theorem dX1_dearest_73 : decode cX1_dearest 73 = .ok (.iload 4, 2) := by decide +kernel
theorem dX1_dearest_75 : decode cX1_dearest 75 = .ok (.iload_n 3, 1) := by decide +kernel
theorem dX1_dearest_76 : decode cX1_dearest 76 = .ok (.if_icmp .ge 26, 3) := by decide +kernel
theorem dX1_dearest_79 : decode cX1_dearest 79 = .ok (.aload_n 0, 1) := by decide +kernel
theorem dX1_dearest_80 : decode cX1_dearest 80 = .ok (.getfield 11, 3) := by decide +kernel
theorem dX1_dearest_83 : decode cX1_dearest 83 = .ok (.iload 4, 2) := by decide +kernel
theorem dX1_dearest_85 : decode cX1_dearest 85 = .ok (.aload_n 0, 1) := by decide +kernel
theorem dX1_dearest_86 : decode cX1_dearest 86 = .ok (.getfield 11, 3) := by decide +kernel
theorem dX1_dearest_89 : decode cX1_dearest 89 = .ok (.iload 4, 2) := by decide +kernel
theorem dX1_dearest_91 : decode cX1_dearest 91 = .ok (.iaload, 1) := by decide +kernel
theorem dX1_dearest_92 : decode cX1_dearest 92 = .ok (.aload_n 0, 1) := by decide +kernel
theorem dX1_dearest_93 : decode cX1_dearest 93 = .ok (.getfield 11, 3) := by decide +kernel
theorem dX1_dearest_96 : decode cX1_dearest 96 = .ok (.iload_n 3, 1) := by decide +kernel
theorem dX1_dearest_97 : decode cX1_dearest 97 = .ok (.iaload, 1) := by decide +kernel
theorem dX1_dearest_98 : decode cX1_dearest 98 = .ok (.invokestatic 51, 3) := by decide +kernel
theorem dX1_dearest_101 : decode cX1_dearest 101 = .ok (.iastore, 1) := by decide +kernel
theorem dX1_dearest_102 : decode cX1_dearest 102 = .ok (.iload_n 2, 1) := by decide +kernel
theorem dX1_dearest_103 : decode cX1_dearest 103 = .ok (.iconst (-1), 1) := by decide +kernel
theorem dX1_dearest_104 : decode cX1_dearest 104 = .ok (.if_icmp .eq 18, 3) := by decide +kernel
theorem dX1_dearest_107 : decode cX1_dearest 107 = .ok (.aload_n 0, 1) := by decide +kernel
theorem dX1_dearest_108 : decode cX1_dearest 108 = .ok (.getfield 11, 3) := by decide +kernel
theorem dX1_dearest_111 : decode cX1_dearest 111 = .ok (.iload_n 3, 1) := by decide +kernel
theorem dX1_dearest_112 : decode cX1_dearest 112 = .ok (.iaload, 1) := by decide +kernel
theorem dX1_dearest_113 : decode cX1_dearest 113 = .ok (.aload_n 0, 1) := by decide +kernel
theorem dX1_dearest_114 : decode cX1_dearest 114 = .ok (.getfield 11, 3) := by decide +kernel
theorem dX1_dearest_117 : decode cX1_dearest 117 = .ok (.iload_n 2, 1) := by decide +kernel
theorem dX1_dearest_118 : decode cX1_dearest 118 = .ok (.iaload, 1) := by decide +kernel
theorem dX1_dearest_119 : decode cX1_dearest 119 = .ok (.if_icmp .lt 7, 3) := by decide +kernel
theorem dX1_dearest_122 : decode cX1_dearest 122 = .ok (.iload_n 3, 1) := by decide +kernel
theorem dX1_dearest_123 : decode cX1_dearest 123 = .ok (.goto 4, 3) := by decide +kernel
theorem dX1_dearest_126 : decode cX1_dearest 126 = .ok (.iload_n 2, 1) := by decide +kernel
theorem dX1_dearest_127 : decode cX1_dearest 127 = .ok (.istore_n 2, 1) := by decide +kernel
theorem dX1_dearest_128 : decode cX1_dearest 128 = .ok (.iinc 3 (-1), 3) := by decide +kernel
theorem dX1_dearest_131 : decode cX1_dearest 131 = .ok (.goto (-99), 3) := by decide +kernel
theorem dX1_dearest_134 : decode cX1_dearest 134 = .ok (.iload_n 2, 1) := by decide +kernel
theorem dX1_dearest_135 : decode cX1_dearest 135 = .ok (.ireturn, 1) := by decide +kernel
theorem dX1_crossings_0 : decode cX1_crossings 0 = .ok (.iconst 0, 1) := by decide +kernel
theorem dX1_crossings_1 : decode cX1_crossings 1 = .ok (.istore_n 2, 1) := by decide +kernel
theorem dX1_crossings_2 : decode cX1_crossings 2 = .ok (.iconst 0, 1) := by decide +kernel
theorem dX1_crossings_3 : decode cX1_crossings 3 = .ok (.istore_n 3, 1) := by decide +kernel
theorem dX1_crossings_4 : decode cX1_crossings 4 = .ok (.iload_n 3, 1) := by decide +kernel
theorem dX1_crossings_5 : decode cX1_crossings 5 = .ok (.aload_n 1, 1) := by decide +kernel
theorem dX1_crossings_6 : decode cX1_crossings 6 = .ok (.getfield 26, 3) := by decide +kernel
theorem dX1_crossings_9 : decode cX1_crossings 9 = .ok (.if_icmp .ge 122, 3) := by decide +kernel
theorem dX1_crossings_12 : decode cX1_crossings 12 = .ok (.iload_n 3, 1) := by decide +kernel
theorem dX1_crossings_13 : decode cX1_crossings 13 = .ok (.iconst 1, 1) := by decide +kernel
theorem dX1_crossings_14 : decode cX1_crossings 14 = .ok (.iadd, 1) := by decide +kernel
theorem dX1_crossings_15 : decode cX1_crossings 15 = .ok (.istore 4, 2) := by decide +kernel
theorem dX1_crossings_17 : decode cX1_crossings 17 = .ok (.iload 4, 2) := by decide +kernel
theorem dX1_crossings_19 : decode cX1_crossings 19 = .ok (.aload_n 1, 1) := by decide +kernel
theorem dX1_crossings_20 : decode cX1_crossings 20 = .ok (.getfield 26, 3) := by decide +kernel
theorem dX1_crossings_23 : decode cX1_crossings 23 = .ok (.if_icmp .ge 102, 3) := by decide +kernel
theorem dX1_crossings_26 : decode cX1_crossings 26 = .ok (.aload_n 1, 1) := by decide +kernel
theorem dX1_crossings_27 : decode cX1_crossings 27 = .ok (.getfield 40, 3) := by decide +kernel
theorem dX1_crossings_30 : decode cX1_crossings 30 = .ok (.iload_n 3, 1) := by decide +kernel
theorem dX1_crossings_31 : decode cX1_crossings 31 = .ok (.iaload, 1) := by decide +kernel
theorem dX1_crossings_32 : decode cX1_crossings 32 = .ok (.aload_n 1, 1) := by decide +kernel
theorem dX1_crossings_33 : decode cX1_crossings 33 = .ok (.getfield 40, 3) := by decide +kernel
theorem dX1_crossings_36 : decode cX1_crossings 36 = .ok (.iload 4, 2) := by decide +kernel
theorem dX1_crossings_38 : decode cX1_crossings 38 = .ok (.iaload, 1) := by decide +kernel
theorem dX1_crossings_39 : decode cX1_crossings 39 = .ok (.if_icmp .eq 26, 3) := by decide +kernel
theorem dX1_crossings_42 : decode cX1_crossings 42 = .ok (.aload_n 1, 1) := by decide +kernel
theorem dX1_crossings_43 : decode cX1_crossings 43 = .ok (.getfield 57, 3) := by decide +kernel
theorem dX1_crossings_46 : decode cX1_crossings 46 = .ok (.iload_n 3, 1) := by decide +kernel
theorem dX1_crossings_47 : decode cX1_crossings 47 = .ok (.iaload, 1) := by decide +kernel
theorem dX1_crossings_48 : decode cX1_crossings 48 = .ok (.ifCond .ne 17, 3) := by decide +kernel
theorem dX1_crossings_51 : decode cX1_crossings 51 = .ok (.aload_n 1, 1) := by decide +kernel
theorem dX1_crossings_52 : decode cX1_crossings 52 = .ok (.getfield 57, 3) := by decide +kernel
theorem dX1_crossings_55 : decode cX1_crossings 55 = .ok (.iload 4, 2) := by decide +kernel
theorem dX1_crossings_57 : decode cX1_crossings 57 = .ok (.iaload, 1) := by decide +kernel
theorem dX1_crossings_58 : decode cX1_crossings 58 = .ok (.ifCond .ne 7, 3) := by decide +kernel
theorem dX1_crossings_61 : decode cX1_crossings 61 = .ok (.iconst 1, 1) := by decide +kernel
theorem dX1_crossings_62 : decode cX1_crossings 62 = .ok (.goto 4, 3) := by decide +kernel
theorem dX1_crossings_65 : decode cX1_crossings 65 = .ok (.iconst 0, 1) := by decide +kernel
theorem dX1_crossings_66 : decode cX1_crossings 66 = .ok (.istore 5, 2) := by decide +kernel
theorem dX1_crossings_68 : decode cX1_crossings 68 = .ok (.aload_n 1, 1) := by decide +kernel
theorem dX1_crossings_69 : decode cX1_crossings 69 = .ok (.getfield 77, 3) := by decide +kernel
theorem dX1_crossings_72 : decode cX1_crossings 72 = .ok (.iload_n 3, 1) := by decide +kernel
theorem dX1_crossings_73 : decode cX1_crossings 73 = .ok (.iaload, 1) := by decide +kernel
theorem dX1_crossings_74 : decode cX1_crossings 74 = .ok (.iconst (-1), 1) := by decide +kernel
theorem dX1_crossings_75 : decode cX1_crossings 75 = .ok (.if_icmp .eq 23, 3) := by decide +kernel
theorem dX1_crossings_78 : decode cX1_crossings 78 = .ok (.aload_n 1, 1) := by decide +kernel
theorem dX1_crossings_79 : decode cX1_crossings 79 = .ok (.getfield 77, 3) := by decide +kernel
theorem dX1_crossings_82 : decode cX1_crossings 82 = .ok (.iload_n 3, 1) := by decide +kernel
theorem dX1_crossings_83 : decode cX1_crossings 83 = .ok (.iaload, 1) := by decide +kernel
theorem dX1_crossings_84 : decode cX1_crossings 84 = .ok (.aload_n 1, 1) := by decide +kernel
theorem dX1_crossings_85 : decode cX1_crossings 85 = .ok (.getfield 80, 3) := by decide +kernel
theorem dX1_crossings_88 : decode cX1_crossings 88 = .ok (.iload 4, 2) := by decide +kernel
theorem dX1_crossings_90 : decode cX1_crossings 90 = .ok (.iaload, 1) := by decide +kernel
theorem dX1_crossings_91 : decode cX1_crossings 91 = .ok (.if_icmp .ge 7, 3) := by decide +kernel
theorem dX1_crossings_94 : decode cX1_crossings 94 = .ok (.iconst 1, 1) := by decide +kernel
theorem dX1_crossings_95 : decode cX1_crossings 95 = .ok (.goto 4, 3) := by decide +kernel
theorem dX1_crossings_98 : decode cX1_crossings 98 = .ok (.iconst 0, 1) := by decide +kernel
theorem dX1_crossings_99 : decode cX1_crossings 99 = .ok (.istore 6, 2) := by decide +kernel
theorem dX1_crossings_101 : decode cX1_crossings 101 = .ok (.iload_n 2, 1) := by decide +kernel
theorem dX1_crossings_102 : decode cX1_crossings 102 = .ok (.iload 5, 2) := by decide +kernel
theorem dX1_crossings_104 : decode cX1_crossings 104 = .ok (.ifCond .eq 12, 3) := by decide +kernel
theorem dX1_crossings_107 : decode cX1_crossings 107 = .ok (.iload 6, 2) := by decide +kernel
theorem dX1_crossings_109 : decode cX1_crossings 109 = .ok (.ifCond .ne 7, 3) := by decide +kernel
theorem dX1_crossings_112 : decode cX1_crossings 112 = .ok (.iconst 1, 1) := by decide +kernel
theorem dX1_crossings_113 : decode cX1_crossings 113 = .ok (.goto 4, 3) := by decide +kernel
theorem dX1_crossings_116 : decode cX1_crossings 116 = .ok (.iconst 0, 1) := by decide +kernel
theorem dX1_crossings_117 : decode cX1_crossings 117 = .ok (.iadd, 1) := by decide +kernel
theorem dX1_crossings_118 : decode cX1_crossings 118 = .ok (.istore_n 2, 1) := by decide +kernel
theorem dX1_crossings_119 : decode cX1_crossings 119 = .ok (.iinc 4 1, 3) := by decide +kernel
theorem dX1_crossings_122 : decode cX1_crossings 122 = .ok (.goto (-105), 3) := by decide +kernel
theorem dX1_crossings_125 : decode cX1_crossings 125 = .ok (.iinc 3 1, 3) := by decide +kernel
theorem dX1_crossings_128 : decode cX1_crossings 128 = .ok (.goto (-124), 3) := by decide +kernel
theorem dX1_crossings_131 : decode cX1_crossings 131 = .ok (.iload_n 2, 1) := by decide +kernel
theorem dX1_crossings_132 : decode cX1_crossings 132 = .ok (.ireturn, 1) := by decide +kernel
theorem dX1_gatherPauses_0 : decode cX1_gatherPauses 0 = .ok (.aload_n 0, 1) := by decide +kernel
theorem dX1_gatherPauses_1 : decode cX1_gatherPauses 1 = .ok (.iconst 0, 1) := by decide +kernel
theorem dX1_gatherPauses_2 : decode cX1_gatherPauses 2 = .ok (.putfield 83, 3) := by decide +kernel
theorem dX1_gatherPauses_5 : decode cX1_gatherPauses 5 = .ok (.iconst 0, 1) := by decide +kernel
theorem dX1_gatherPauses_6 : decode cX1_gatherPauses 6 = .ok (.istore_n 2, 1) := by decide +kernel
theorem dX1_gatherPauses_7 : decode cX1_gatherPauses 7 = .ok (.iload_n 2, 1) := by decide +kernel
theorem dX1_gatherPauses_8 : decode cX1_gatherPauses 8 = .ok (.aload_n 1, 1) := by decide +kernel
theorem dX1_gatherPauses_9 : decode cX1_gatherPauses 9 = .ok (.getfield 26, 3) := by decide +kernel
theorem dX1_gatherPauses_12 : decode cX1_gatherPauses 12 = .ok (.if_icmp .ge 32, 3) := by decide +kernel
theorem dX1_gatherPauses_15 : decode cX1_gatherPauses 15 = .ok (.aload_n 1, 1) := by decide +kernel
theorem dX1_gatherPauses_16 : decode cX1_gatherPauses 16 = .ok (.iload_n 2, 1) := by decide +kernel
theorem dX1_gatherPauses_17 : decode cX1_gatherPauses 17 = .ok (.invokevirtual 43, 3) := by decide +kernel
theorem dX1_gatherPauses_20 : decode cX1_gatherPauses 20 = .ok (.ifCond .eq 18, 3) := by decide +kernel
theorem dX1_gatherPauses_23 : decode cX1_gatherPauses 23 = .ok (.aload_n 0, 1) := by decide +kernel
theorem dX1_gatherPauses_24 : decode cX1_gatherPauses 24 = .ok (.aload_n 1, 1) := by decide +kernel
theorem dX1_gatherPauses_25 : decode cX1_gatherPauses 25 = .ok (.iload_n 2, 1) := by decide +kernel
theorem dX1_gatherPauses_26 : decode cX1_gatherPauses 26 = .ok (.invokevirtual 47, 3) := by decide +kernel
theorem dX1_gatherPauses_29 : decode cX1_gatherPauses 29 = .ok (.aload_n 1, 1) := by decide +kernel
theorem dX1_gatherPauses_30 : decode cX1_gatherPauses 30 = .ok (.getfield 40, 3) := by decide +kernel
theorem dX1_gatherPauses_33 : decode cX1_gatherPauses 33 = .ok (.iload_n 2, 1) := by decide +kernel
theorem dX1_gatherPauses_34 : decode cX1_gatherPauses 34 = .ok (.iaload, 1) := by decide +kernel
theorem dX1_gatherPauses_35 : decode cX1_gatherPauses 35 = .ok (.invokevirtual 86, 3) := by decide +kernel
theorem dX1_gatherPauses_38 : decode cX1_gatherPauses 38 = .ok (.iinc 2 1, 3) := by decide +kernel
theorem dX1_gatherPauses_41 : decode cX1_gatherPauses 41 = .ok (.goto (-34), 3) := by decide +kernel
theorem dX1_gatherPauses_44 : decode cX1_gatherPauses 44 = .ok (.return_, 1) := by decide +kernel
theorem dX1_insertPause_0 : decode cX1_insertPause 0 = .ok (.aload_n 0, 1) := by decide +kernel
theorem dX1_insertPause_1 : decode cX1_insertPause 1 = .ok (.getfield 83, 3) := by decide +kernel
theorem dX1_insertPause_4 : decode cX1_insertPause 4 = .ok (.bipush 60, 2) := by decide +kernel
theorem dX1_insertPause_6 : decode cX1_insertPause 6 = .ok (.if_icmp .lt 4, 3) := by decide +kernel
theorem dX1_insertPause_9 : decode cX1_insertPause 9 = .ok (.return_, 1) := by decide +kernel
theorem dX1_insertPause_10 : decode cX1_insertPause 10 = .ok (.aload_n 0, 1) := by decide +kernel
theorem dX1_insertPause_11 : decode cX1_insertPause 11 = .ok (.getfield 83, 3) := by decide +kernel
theorem dX1_insertPause_14 : decode cX1_insertPause 14 = .ok (.istore_n 3, 1) := by decide +kernel
theorem dX1_insertPause_15 : decode cX1_insertPause 15 = .ok (.iload_n 3, 1) := by decide +kernel
theorem dX1_insertPause_16 : decode cX1_insertPause 16 = .ok (.ifCond .le 49, 3) := by decide +kernel
theorem dX1_insertPause_19 : decode cX1_insertPause 19 = .ok (.aload_n 0, 1) := by decide +kernel
theorem dX1_insertPause_20 : decode cX1_insertPause 20 = .ok (.getfield 20, 3) := by decide +kernel
theorem dX1_insertPause_23 : decode cX1_insertPause 23 = .ok (.iload_n 3, 1) := by decide +kernel
theorem dX1_insertPause_24 : decode cX1_insertPause 24 = .ok (.iconst 1, 1) := by decide +kernel
theorem dX1_insertPause_25 : decode cX1_insertPause 25 = .ok (.isub, 1) := by decide +kernel
theorem dX1_insertPause_26 : decode cX1_insertPause 26 = .ok (.iaload, 1) := by decide +kernel
theorem dX1_insertPause_27 : decode cX1_insertPause 27 = .ok (.iload_n 1, 1) := by decide +kernel
theorem dX1_insertPause_28 : decode cX1_insertPause 28 = .ok (.if_icmp .le 37, 3) := by decide +kernel
theorem dX1_insertPause_31 : decode cX1_insertPause 31 = .ok (.aload_n 0, 1) := by decide +kernel
theorem dX1_insertPause_32 : decode cX1_insertPause 32 = .ok (.getfield 20, 3) := by decide +kernel
theorem dX1_insertPause_35 : decode cX1_insertPause 35 = .ok (.iload_n 3, 1) := by decide +kernel
theorem dX1_insertPause_36 : decode cX1_insertPause 36 = .ok (.aload_n 0, 1) := by decide +kernel
theorem dX1_insertPause_37 : decode cX1_insertPause 37 = .ok (.getfield 20, 3) := by decide +kernel
theorem dX1_insertPause_40 : decode cX1_insertPause 40 = .ok (.iload_n 3, 1) := by decide +kernel
theorem dX1_insertPause_41 : decode cX1_insertPause 41 = .ok (.iconst 1, 1) := by decide +kernel
theorem dX1_insertPause_42 : decode cX1_insertPause 42 = .ok (.isub, 1) := by decide +kernel
theorem dX1_insertPause_43 : decode cX1_insertPause 43 = .ok (.iaload, 1) := by decide +kernel
theorem dX1_insertPause_44 : decode cX1_insertPause 44 = .ok (.iastore, 1) := by decide +kernel
theorem dX1_insertPause_45 : decode cX1_insertPause 45 = .ok (.aload_n 0, 1) := by decide +kernel
theorem dX1_insertPause_46 : decode cX1_insertPause 46 = .ok (.getfield 23, 3) := by decide +kernel
theorem dX1_insertPause_49 : decode cX1_insertPause 49 = .ok (.iload_n 3, 1) := by decide +kernel
theorem dX1_insertPause_50 : decode cX1_insertPause 50 = .ok (.aload_n 0, 1) := by decide +kernel
theorem dX1_insertPause_51 : decode cX1_insertPause 51 = .ok (.getfield 23, 3) := by decide +kernel
theorem dX1_insertPause_54 : decode cX1_insertPause 54 = .ok (.iload_n 3, 1) := by decide +kernel
theorem dX1_insertPause_55 : decode cX1_insertPause 55 = .ok (.iconst 1, 1) := by decide +kernel
theorem dX1_insertPause_56 : decode cX1_insertPause 56 = .ok (.isub, 1) := by decide +kernel
theorem dX1_insertPause_57 : decode cX1_insertPause 57 = .ok (.iaload, 1) := by decide +kernel
theorem dX1_insertPause_58 : decode cX1_insertPause 58 = .ok (.iastore, 1) := by decide +kernel
theorem dX1_insertPause_59 : decode cX1_insertPause 59 = .ok (.iinc 3 (-1), 3) := by decide +kernel
theorem dX1_insertPause_62 : decode cX1_insertPause 62 = .ok (.goto (-47), 3) := by decide +kernel
theorem dX1_insertPause_65 : decode cX1_insertPause 65 = .ok (.aload_n 0, 1) := by decide +kernel
theorem dX1_insertPause_66 : decode cX1_insertPause 66 = .ok (.getfield 20, 3) := by decide +kernel
theorem dX1_insertPause_69 : decode cX1_insertPause 69 = .ok (.iload_n 3, 1) := by decide +kernel
theorem dX1_insertPause_70 : decode cX1_insertPause 70 = .ok (.iload_n 1, 1) := by decide +kernel
theorem dX1_insertPause_71 : decode cX1_insertPause 71 = .ok (.iastore, 1) := by decide +kernel
theorem dX1_insertPause_72 : decode cX1_insertPause 72 = .ok (.aload_n 0, 1) := by decide +kernel
theorem dX1_insertPause_73 : decode cX1_insertPause 73 = .ok (.getfield 23, 3) := by decide +kernel
theorem dX1_insertPause_76 : decode cX1_insertPause 76 = .ok (.iload_n 3, 1) := by decide +kernel
theorem dX1_insertPause_77 : decode cX1_insertPause 77 = .ok (.iload_n 2, 1) := by decide +kernel
theorem dX1_insertPause_78 : decode cX1_insertPause 78 = .ok (.iastore, 1) := by decide +kernel
theorem dX1_insertPause_79 : decode cX1_insertPause 79 = .ok (.aload_n 0, 1) := by decide +kernel
theorem dX1_insertPause_80 : decode cX1_insertPause 80 = .ok (.dup, 1) := by decide +kernel
theorem dX1_insertPause_81 : decode cX1_insertPause 81 = .ok (.getfield 83, 3) := by decide +kernel
theorem dX1_insertPause_84 : decode cX1_insertPause 84 = .ok (.iconst 1, 1) := by decide +kernel
theorem dX1_insertPause_85 : decode cX1_insertPause 85 = .ok (.iadd, 1) := by decide +kernel
theorem dX1_insertPause_86 : decode cX1_insertPause 86 = .ok (.putfield 83, 3) := by decide +kernel
theorem dX1_insertPause_89 : decode cX1_insertPause 89 = .ok (.return_, 1) := by decide +kernel
theorem dX1_bestCut_0 : decode cX1_bestCut 0 = .ok (.iconst 1, 1) := by decide +kernel
theorem dX1_bestCut_1 : decode cX1_bestCut 1 = .ok (.istore_n 1, 1) := by decide +kernel
theorem dX1_bestCut_2 : decode cX1_bestCut 2 = .ok (.aload_n 0, 1) := by decide +kernel
theorem dX1_bestCut_3 : decode cX1_bestCut 3 = .ok (.iconst 1, 1) := by decide +kernel
theorem dX1_bestCut_4 : decode cX1_bestCut 4 = .ok (.invokevirtual 90, 3) := by decide +kernel
theorem dX1_bestCut_7 : decode cX1_bestCut 7 = .ok (.istore_n 2, 1) := by decide +kernel
theorem dX1_bestCut_8 : decode cX1_bestCut 8 = .ok (.iconst 0, 1) := by decide +kernel
theorem dX1_bestCut_9 : decode cX1_bestCut 9 = .ok (.istore_n 3, 1) := by decide +kernel
theorem dX1_bestCut_10 : decode cX1_bestCut 10 = .ok (.iload_n 3, 1) := by decide +kernel
theorem dX1_bestCut_11 : decode cX1_bestCut 11 = .ok (.aload_n 0, 1) := by decide +kernel
theorem dX1_bestCut_12 : decode cX1_bestCut 12 = .ok (.getfield 83, 3) := by decide +kernel
theorem dX1_bestCut_15 : decode cX1_bestCut 15 = .ok (.if_icmp .ge 53, 3) := by decide +kernel
theorem dX1_bestCut_18 : decode cX1_bestCut 18 = .ok (.aload_n 0, 1) := by decide +kernel
theorem dX1_bestCut_19 : decode cX1_bestCut 19 = .ok (.getfield 20, 3) := by decide +kernel
theorem dX1_bestCut_22 : decode cX1_bestCut 22 = .ok (.iload_n 3, 1) := by decide +kernel
theorem dX1_bestCut_23 : decode cX1_bestCut 23 = .ok (.iaload, 1) := by decide +kernel
theorem dX1_bestCut_24 : decode cX1_bestCut 24 = .ok (.iconst 1, 1) := by decide +kernel
theorem dX1_bestCut_25 : decode cX1_bestCut 25 = .ok (.iadd, 1) := by decide +kernel
theorem dX1_bestCut_26 : decode cX1_bestCut 26 = .ok (.istore 4, 2) := by decide +kernel
theorem dX1_bestCut_28 : decode cX1_bestCut 28 = .ok (.iload 4, 2) := by decide +kernel
theorem dX1_bestCut_30 : decode cX1_bestCut 30 = .ok (.iconst 1, 1) := by decide +kernel
theorem dX1_bestCut_31 : decode cX1_bestCut 31 = .ok (.if_icmp .lt 31, 3) := by decide +kernel
theorem dX1_bestCut_34 : decode cX1_bestCut 34 = .ok (.iload 4, 2) := by decide +kernel
theorem dX1_bestCut_36 : decode cX1_bestCut 36 = .ok (.sipush 9999, 3) := by decide +kernel
theorem dX1_bestCut_39 : decode cX1_bestCut 39 = .ok (.if_icmp .gt 23, 3) := by decide +kernel
theorem dX1_bestCut_42 : decode cX1_bestCut 42 = .ok (.aload_n 0, 1) := by decide +kernel
theorem dX1_bestCut_43 : decode cX1_bestCut 43 = .ok (.iload 4, 2) := by decide +kernel
theorem dX1_bestCut_45 : decode cX1_bestCut 45 = .ok (.invokevirtual 90, 3) := by decide +kernel
theorem dX1_bestCut_48 : decode cX1_bestCut 48 = .ok (.iload_n 2, 1) := by decide +kernel
theorem dX1_bestCut_49 : decode cX1_bestCut 49 = .ok (.if_icmp .ge 13, 3) := by decide +kernel
theorem dX1_bestCut_52 : decode cX1_bestCut 52 = .ok (.aload_n 0, 1) := by decide +kernel
theorem dX1_bestCut_53 : decode cX1_bestCut 53 = .ok (.iload 4, 2) := by decide +kernel
theorem dX1_bestCut_55 : decode cX1_bestCut 55 = .ok (.invokevirtual 90, 3) := by decide +kernel
theorem dX1_bestCut_58 : decode cX1_bestCut 58 = .ok (.istore_n 2, 1) := by decide +kernel
theorem dX1_bestCut_59 : decode cX1_bestCut 59 = .ok (.iload 4, 2) := by decide +kernel
theorem dX1_bestCut_61 : decode cX1_bestCut 61 = .ok (.istore_n 1, 1) := by decide +kernel
theorem dX1_bestCut_62 : decode cX1_bestCut 62 = .ok (.iinc 3 1, 3) := by decide +kernel
theorem dX1_bestCut_65 : decode cX1_bestCut 65 = .ok (.goto (-55), 3) := by decide +kernel
theorem dX1_bestCut_68 : decode cX1_bestCut 68 = .ok (.iload_n 1, 1) := by decide +kernel
theorem dX1_bestCut_69 : decode cX1_bestCut 69 = .ok (.ireturn, 1) := by decide +kernel
theorem dX1_costOfCut_0 : decode cX1_costOfCut 0 = .ok (.iconst 0, 1) := by decide +kernel
theorem dX1_costOfCut_1 : decode cX1_costOfCut 1 = .ok (.istore_n 2, 1) := by decide +kernel
theorem dX1_costOfCut_2 : decode cX1_costOfCut 2 = .ok (.iload_n 2, 1) := by decide +kernel
theorem dX1_costOfCut_3 : decode cX1_costOfCut 3 = .ok (.aload_n 0, 1) := by decide +kernel
theorem dX1_costOfCut_4 : decode cX1_costOfCut 4 = .ok (.getfield 83, 3) := by decide +kernel
theorem dX1_costOfCut_7 : decode cX1_costOfCut 7 = .ok (.if_icmp .ge 19, 3) := by decide +kernel
theorem dX1_costOfCut_10 : decode cX1_costOfCut 10 = .ok (.aload_n 0, 1) := by decide +kernel
theorem dX1_costOfCut_11 : decode cX1_costOfCut 11 = .ok (.getfield 20, 3) := by decide +kernel
theorem dX1_costOfCut_14 : decode cX1_costOfCut 14 = .ok (.iload_n 2, 1) := by decide +kernel
theorem dX1_costOfCut_15 : decode cX1_costOfCut 15 = .ok (.iaload, 1) := by decide +kernel
theorem dX1_costOfCut_16 : decode cX1_costOfCut 16 = .ok (.iload_n 1, 1) := by decide +kernel
theorem dX1_costOfCut_17 : decode cX1_costOfCut 17 = .ok (.if_icmp .ge 9, 3) := by decide +kernel
theorem dX1_costOfCut_20 : decode cX1_costOfCut 20 = .ok (.iinc 2 1, 3) := by decide +kernel
theorem dX1_costOfCut_23 : decode cX1_costOfCut 23 = .ok (.goto (-21), 3) := by decide +kernel
theorem dX1_costOfCut_26 : decode cX1_costOfCut 26 = .ok (.aload_n 0, 1) := by decide +kernel
theorem dX1_costOfCut_27 : decode cX1_costOfCut 27 = .ok (.iconst 0, 1) := by decide +kernel
theorem dX1_costOfCut_28 : decode cX1_costOfCut 28 = .ok (.iload_n 2, 1) := by decide +kernel
theorem dX1_costOfCut_29 : decode cX1_costOfCut 29 = .ok (.invokevirtual 93, 3) := by decide +kernel
theorem dX1_costOfCut_32 : decode cX1_costOfCut 32 = .ok (.aload_n 0, 1) := by decide +kernel
theorem dX1_costOfCut_33 : decode cX1_costOfCut 33 = .ok (.iload_n 2, 1) := by decide +kernel
theorem dX1_costOfCut_34 : decode cX1_costOfCut 34 = .ok (.aload_n 0, 1) := by decide +kernel
theorem dX1_costOfCut_35 : decode cX1_costOfCut 35 = .ok (.getfield 83, 3) := by decide +kernel
theorem dX1_costOfCut_38 : decode cX1_costOfCut 38 = .ok (.invokevirtual 93, 3) := by decide +kernel
theorem dX1_costOfCut_41 : decode cX1_costOfCut 41 = .ok (.iadd, 1) := by decide +kernel
theorem dX1_costOfCut_42 : decode cX1_costOfCut 42 = .ok (.ireturn, 1) := by decide +kernel
theorem dX1_spread_0 : decode cX1_spread 0 = .ok (.iconst 0, 1) := by decide +kernel
theorem dX1_spread_1 : decode cX1_spread 1 = .ok (.istore_n 3, 1) := by decide +kernel
theorem dX1_spread_2 : decode cX1_spread 2 = .ok (.iload_n 1, 1) := by decide +kernel
theorem dX1_spread_3 : decode cX1_spread 3 = .ok (.iload_n 2, 1) := by decide +kernel
theorem dX1_spread_4 : decode cX1_spread 4 = .ok (.iload_n 1, 1) := by decide +kernel
theorem dX1_spread_5 : decode cX1_spread 5 = .ok (.isub, 1) := by decide +kernel
theorem dX1_spread_6 : decode cX1_spread 6 = .ok (.iconst 1, 1) := by decide +kernel
theorem dX1_spread_7 : decode cX1_spread 7 = .ok (.isub, 1) := by decide +kernel
theorem dX1_spread_8 : decode cX1_spread 8 = .ok (.iconst 2, 1) := by decide +kernel
theorem dX1_spread_9 : decode cX1_spread 9 = .ok (.idiv, 1) := by decide +kernel
theorem dX1_spread_10 : decode cX1_spread 10 = .ok (.iadd, 1) := by decide +kernel
theorem dX1_spread_11 : decode cX1_spread 11 = .ok (.istore 4, 2) := by decide +kernel
theorem dX1_spread_13 : decode cX1_spread 13 = .ok (.iload_n 1, 1) := by decide +kernel
theorem dX1_spread_14 : decode cX1_spread 14 = .ok (.istore 5, 2) := by decide +kernel
theorem dX1_spread_16 : decode cX1_spread 16 = .ok (.iload 5, 2) := by decide +kernel
theorem dX1_spread_18 : decode cX1_spread 18 = .ok (.iload_n 2, 1) := by decide +kernel
theorem dX1_spread_19 : decode cX1_spread 19 = .ok (.if_icmp .ge 30, 3) := by decide +kernel
theorem dX1_spread_22 : decode cX1_spread 22 = .ok (.iload_n 3, 1) := by decide +kernel
theorem dX1_spread_23 : decode cX1_spread 23 = .ok (.aload_n 0, 1) := by decide +kernel
theorem dX1_spread_24 : decode cX1_spread 24 = .ok (.getfield 20, 3) := by decide +kernel
theorem dX1_spread_27 : decode cX1_spread 27 = .ok (.iload 5, 2) := by decide +kernel
theorem dX1_spread_29 : decode cX1_spread 29 = .ok (.iaload, 1) := by decide +kernel
theorem dX1_spread_30 : decode cX1_spread 30 = .ok (.aload_n 0, 1) := by decide +kernel
theorem dX1_spread_31 : decode cX1_spread 31 = .ok (.getfield 20, 3) := by decide +kernel
theorem dX1_spread_34 : decode cX1_spread 34 = .ok (.iload 4, 2) := by decide +kernel
theorem dX1_spread_36 : decode cX1_spread 36 = .ok (.iaload, 1) := by decide +kernel
theorem dX1_spread_37 : decode cX1_spread 37 = .ok (.isub, 1) := by decide +kernel
theorem dX1_spread_38 : decode cX1_spread 38 = .ok (.invokestatic 96, 3) := by decide +kernel
theorem dX1_spread_41 : decode cX1_spread 41 = .ok (.iadd, 1) := by decide +kernel
theorem dX1_spread_42 : decode cX1_spread 42 = .ok (.istore_n 3, 1) := by decide +kernel
theorem dX1_spread_43 : decode cX1_spread 43 = .ok (.iinc 5 1, 3) := by decide +kernel
theorem dX1_spread_46 : decode cX1_spread 46 = .ok (.goto (-30), 3) := by decide +kernel
theorem dX1_spread_49 : decode cX1_spread 49 = .ok (.iload_n 3, 1) := by decide +kernel
theorem dX1_spread_50 : decode cX1_spread 50 = .ok (.ireturn, 1) := by decide +kernel
theorem dX1_ofFirstBelow_0 : decode cX1_ofFirstBelow 0 = .ok (.iconst 0, 1) := by decide +kernel
theorem dX1_ofFirstBelow_1 : decode cX1_ofFirstBelow 1 = .ok (.istore_n 2, 1) := by decide +kernel
theorem dX1_ofFirstBelow_2 : decode cX1_ofFirstBelow 2 = .ok (.iconst 0, 1) := by decide +kernel
theorem dX1_ofFirstBelow_3 : decode cX1_ofFirstBelow 3 = .ok (.istore_n 3, 1) := by decide +kernel
theorem dX1_ofFirstBelow_4 : decode cX1_ofFirstBelow 4 = .ok (.iload_n 3, 1) := by decide +kernel
theorem dX1_ofFirstBelow_5 : decode cX1_ofFirstBelow 5 = .ok (.aload_n 0, 1) := by decide +kernel
theorem dX1_ofFirstBelow_6 : decode cX1_ofFirstBelow 6 = .ok (.getfield 83, 3) := by decide +kernel
theorem dX1_ofFirstBelow_9 : decode cX1_ofFirstBelow 9 = .ok (.if_icmp .ge 36, 3) := by decide +kernel
theorem dX1_ofFirstBelow_12 : decode cX1_ofFirstBelow 12 = .ok (.iload_n 2, 1) := by decide +kernel
theorem dX1_ofFirstBelow_13 : decode cX1_ofFirstBelow 13 = .ok (.aload_n 0, 1) := by decide +kernel
theorem dX1_ofFirstBelow_14 : decode cX1_ofFirstBelow 14 = .ok (.getfield 20, 3) := by decide +kernel
theorem dX1_ofFirstBelow_17 : decode cX1_ofFirstBelow 17 = .ok (.iload_n 3, 1) := by decide +kernel
theorem dX1_ofFirstBelow_18 : decode cX1_ofFirstBelow 18 = .ok (.iaload, 1) := by decide +kernel
theorem dX1_ofFirstBelow_19 : decode cX1_ofFirstBelow 19 = .ok (.iload_n 1, 1) := by decide +kernel
theorem dX1_ofFirstBelow_20 : decode cX1_ofFirstBelow 20 = .ok (.if_icmp .ge 16, 3) := by decide +kernel
theorem dX1_ofFirstBelow_23 : decode cX1_ofFirstBelow 23 = .ok (.aload_n 0, 1) := by decide +kernel
theorem dX1_ofFirstBelow_24 : decode cX1_ofFirstBelow 24 = .ok (.getfield 23, 3) := by decide +kernel
theorem dX1_ofFirstBelow_27 : decode cX1_ofFirstBelow 27 = .ok (.iload_n 3, 1) := by decide +kernel
theorem dX1_ofFirstBelow_28 : decode cX1_ofFirstBelow 28 = .ok (.iaload, 1) := by decide +kernel
theorem dX1_ofFirstBelow_29 : decode cX1_ofFirstBelow 29 = .ok (.ifCond .ne 7, 3) := by decide +kernel
theorem dX1_ofFirstBelow_32 : decode cX1_ofFirstBelow 32 = .ok (.iconst 1, 1) := by decide +kernel
theorem dX1_ofFirstBelow_33 : decode cX1_ofFirstBelow 33 = .ok (.goto 4, 3) := by decide +kernel
theorem dX1_ofFirstBelow_36 : decode cX1_ofFirstBelow 36 = .ok (.iconst 0, 1) := by decide +kernel
theorem dX1_ofFirstBelow_37 : decode cX1_ofFirstBelow 37 = .ok (.iadd, 1) := by decide +kernel
theorem dX1_ofFirstBelow_38 : decode cX1_ofFirstBelow 38 = .ok (.istore_n 2, 1) := by decide +kernel
theorem dX1_ofFirstBelow_39 : decode cX1_ofFirstBelow 39 = .ok (.iinc 3 1, 3) := by decide +kernel
theorem dX1_ofFirstBelow_42 : decode cX1_ofFirstBelow 42 = .ok (.goto (-38), 3) := by decide +kernel
theorem dX1_ofFirstBelow_45 : decode cX1_ofFirstBelow 45 = .ok (.iload_n 2, 1) := by decide +kernel
theorem dX1_ofFirstBelow_46 : decode cX1_ofFirstBelow 46 = .ok (.ireturn, 1) := by decide +kernel
theorem dX2_init_0 : decode cX2_init 0 = .ok (.aload_n 0, 1) := by decide +kernel
theorem dX2_init_1 : decode cX2_init 1 = .ok (.invokespecial 1, 3) := by decide +kernel
theorem dX2_init_4 : decode cX2_init 4 = .ok (.aload_n 0, 1) := by decide +kernel
theorem dX2_init_5 : decode cX2_init 5 = .ok (.bipush 10, 2) := by decide +kernel
theorem dX2_init_7 : decode cX2_init 7 = .ok (.newarray .int, 2) := by decide +kernel
theorem dX2_init_9 : decode cX2_init 9 = .ok (.putfield 9, 3) := by decide +kernel
theorem dX2_init_12 : decode cX2_init 12 = .ok (.aload_n 0, 1) := by decide +kernel
theorem dX2_init_13 : decode cX2_init 13 = .ok (.bipush 64, 2) := by decide +kernel
theorem dX2_init_15 : decode cX2_init 15 = .ok (.newarray .int, 2) := by decide +kernel
theorem dX2_init_17 : decode cX2_init 17 = .ok (.putfield 13, 3) := by decide +kernel
theorem dX2_init_20 : decode cX2_init 20 = .ok (.return_, 1) := by decide +kernel
theorem dX2_step_0 : decode cX2_step 0 = .ok (.iload_n 1, 1) := by decide +kernel
theorem dX2_step_1 : decode cX2_step 1 = .ok (.bipush 16, 2) := by decide +kernel
theorem dX2_step_3 : decode cX2_step 3 = .ok (.imul, 1) := by decide +kernel
theorem dX2_step_4 : decode cX2_step 4 = .ok (.iload_n 0, 1) := by decide +kernel
theorem dX2_step_5 : decode cX2_step 5 = .ok (.iadd, 1) := by decide +kernel
theorem dX2_step_6 : decode cX2_step 6 = .ok (.ireturn, 1) := by decide +kernel
theorem dX2_sit_0 : decode cX2_sit 0 = .ok (.aload_n 2, 1) := by decide +kernel
theorem dX2_sit_1 : decode cX2_sit 1 = .ok (.invokevirtual 16, 3) := by decide +kernel
theorem dX2_sit_4 : decode cX2_sit 4 = .ok (.istore 4, 2) := by decide +kernel
theorem dX2_sit_6 : decode cX2_sit 6 = .ok (.aload_n 0, 1) := by decide +kernel
theorem dX2_sit_7 : decode cX2_sit 7 = .ok (.getfield 9, 3) := by decide +kernel
theorem dX2_sit_10 : decode cX2_sit 10 = .ok (.iconst 0, 1) := by decide +kernel
theorem dX2_sit_11 : decode cX2_sit 11 = .ok (.iload_n 3, 1) := by decide +kernel
theorem dX2_sit_12 : decode cX2_sit 12 = .ok (.iastore, 1) := by decide +kernel
theorem dX2_sit_13 : decode cX2_sit 13 = .ok (.aload_n 0, 1) := by decide +kernel
theorem dX2_sit_14 : decode cX2_sit 14 = .ok (.getfield 9, 3) := by decide +kernel
theorem dX2_sit_17 : decode cX2_sit 17 = .ok (.iconst 1, 1) := by decide +kernel
theorem dX2_sit_18 : decode cX2_sit 18 = .ok (.aload_n 2, 1) := by decide +kernel
theorem dX2_sit_19 : decode cX2_sit 19 = .ok (.getfield 22, 3) := by decide +kernel
theorem dX2_sit_22 : decode cX2_sit 22 = .ok (.iload_n 3, 1) := by decide +kernel
theorem dX2_sit_23 : decode cX2_sit 23 = .ok (.iaload, 1) := by decide +kernel
theorem dX2_sit_24 : decode cX2_sit 24 = .ok (.iastore, 1) := by decide +kernel
theorem dX2_sit_25 : decode cX2_sit 25 = .ok (.aload_n 0, 1) := by decide +kernel
theorem dX2_sit_26 : decode cX2_sit 26 = .ok (.getfield 9, 3) := by decide +kernel
theorem dX2_sit_29 : decode cX2_sit 29 = .ok (.iconst 2, 1) := by decide +kernel
theorem dX2_sit_30 : decode cX2_sit 30 = .ok (.aload_n 2, 1) := by decide +kernel
theorem dX2_sit_31 : decode cX2_sit 31 = .ok (.getfield 25, 3) := by decide +kernel
theorem dX2_sit_34 : decode cX2_sit 34 = .ok (.iload_n 3, 1) := by decide +kernel
theorem dX2_sit_35 : decode cX2_sit 35 = .ok (.iaload, 1) := by decide +kernel
theorem dX2_sit_36 : decode cX2_sit 36 = .ok (.iastore, 1) := by decide +kernel
theorem dX2_sit_37 : decode cX2_sit 37 = .ok (.aload_n 0, 1) := by decide +kernel
theorem dX2_sit_38 : decode cX2_sit 38 = .ok (.getfield 9, 3) := by decide +kernel
theorem dX2_sit_41 : decode cX2_sit 41 = .ok (.bipush 6, 2) := by decide +kernel
theorem dX2_sit_43 : decode cX2_sit 43 = .ok (.aload_n 1, 1) := by decide +kernel
theorem dX2_sit_44 : decode cX2_sit 44 = .ok (.iload_n 3, 1) := by decide +kernel
theorem dX2_sit_45 : decode cX2_sit 45 = .ok (.iload 4, 2) := by decide +kernel
theorem dX2_sit_47 : decode cX2_sit 47 = .ok (.invokevirtual 28, 3) := by decide +kernel
theorem dX2_sit_50 : decode cX2_sit 50 = .ok (.iconst 1, 1) := by decide +kernel
theorem dX2_sit_51 : decode cX2_sit 51 = .ok (.if_icmp .ne 7, 3) := by decide +kernel
theorem dX2_sit_54 : decode cX2_sit 54 = .ok (.iconst 1, 1) := by decide +kernel
theorem dX2_sit_55 : decode cX2_sit 55 = .ok (.goto 4, 3) := by decide +kernel
theorem dX2_sit_58 : decode cX2_sit 58 = .ok (.iconst 0, 1) := by decide +kernel
theorem dX2_sit_59 : decode cX2_sit 59 = .ok (.iastore, 1) := by decide +kernel
theorem dX2_sit_60 : decode cX2_sit 60 = .ok (.aload_n 0, 1) := by decide +kernel
theorem dX2_sit_61 : decode cX2_sit 61 = .ok (.getfield 9, 3) := by decide +kernel
theorem dX2_sit_64 : decode cX2_sit 64 = .ok (.bipush 7, 2) := by decide +kernel
theorem dX2_sit_66 : decode cX2_sit 66 = .ok (.iload 4, 2) := by decide +kernel
theorem dX2_sit_68 : decode cX2_sit 68 = .ok (.iastore, 1) := by decide +kernel
theorem dX2_sit_69 : decode cX2_sit 69 = .ok (.aload_n 0, 1) := by decide +kernel
theorem dX2_sit_70 : decode cX2_sit 70 = .ok (.getfield 9, 3) := by decide +kernel
theorem dX2_sit_73 : decode cX2_sit 73 = .ok (.bipush 8, 2) := by decide +kernel
theorem dX2_sit_75 : decode cX2_sit 75 = .ok (.aload_n 2, 1) := by decide +kernel
theorem dX2_sit_76 : decode cX2_sit 76 = .ok (.getfield 34, 3) := by decide +kernel
theorem dX2_sit_79 : decode cX2_sit 79 = .ok (.iconst 1, 1) := by decide +kernel
theorem dX2_sit_80 : decode cX2_sit 80 = .ok (.iload_n 3, 1) := by decide +kernel
theorem dX2_sit_81 : decode cX2_sit 81 = .ok (.isub, 1) := by decide +kernel
theorem dX2_sit_82 : decode cX2_sit 82 = .ok (.iaload, 1) := by decide +kernel
theorem dX2_sit_83 : decode cX2_sit 83 = .ok (.iastore, 1) := by decide +kernel
theorem dX2_sit_84 : decode cX2_sit 84 = .ok (.aload_n 0, 1) := by decide +kernel
theorem dX2_sit_85 : decode cX2_sit 85 = .ok (.getfield 9, 3) := by decide +kernel
theorem dX2_sit_88 : decode cX2_sit 88 = .ok (.bipush 9, 2) := by decide +kernel
theorem dX2_sit_90 : decode cX2_sit 90 = .ok (.aload_n 2, 1) := by decide +kernel
theorem dX2_sit_91 : decode cX2_sit 91 = .ok (.getfield 37, 3) := by decide +kernel
theorem dX2_sit_94 : decode cX2_sit 94 = .ok (.iastore, 1) := by decide +kernel
theorem dX2_sit_95 : decode cX2_sit 95 = .ok (.return_, 1) := by decide +kernel
theorem dX2_lay_0 : decode cX2_lay 0 = .ok (.aload_n 0, 1) := by decide +kernel
theorem dX2_lay_1 : decode cX2_lay 1 = .ok (.getfield 9, 3) := by decide +kernel
theorem dX2_lay_4 : decode cX2_lay 4 = .ok (.iconst 3, 1) := by decide +kernel
theorem dX2_lay_5 : decode cX2_lay 5 = .ok (.iload_n 1, 1) := by decide +kernel
theorem dX2_lay_6 : decode cX2_lay 6 = .ok (.iastore, 1) := by decide +kernel
theorem dX2_lay_7 : decode cX2_lay 7 = .ok (.aload_n 0, 1) := by decide +kernel
theorem dX2_lay_8 : decode cX2_lay 8 = .ok (.getfield 9, 3) := by decide +kernel
theorem dX2_lay_11 : decode cX2_lay 11 = .ok (.iconst 4, 1) := by decide +kernel
theorem dX2_lay_12 : decode cX2_lay 12 = .ok (.iload_n 2, 1) := by decide +kernel
theorem dX2_lay_13 : decode cX2_lay 13 = .ok (.iastore, 1) := by decide +kernel
theorem dX2_lay_14 : decode cX2_lay 14 = .ok (.aload_n 0, 1) := by decide +kernel
theorem dX2_lay_15 : decode cX2_lay 15 = .ok (.getfield 9, 3) := by decide +kernel
theorem dX2_lay_18 : decode cX2_lay 18 = .ok (.iconst 5, 1) := by decide +kernel
theorem dX2_lay_19 : decode cX2_lay 19 = .ok (.iload_n 3, 1) := by decide +kernel
theorem dX2_lay_20 : decode cX2_lay 20 = .ok (.iastore, 1) := by decide +kernel
theorem dX2_lay_21 : decode cX2_lay 21 = .ok (.return_, 1) := by decide +kernel
theorem dX2_tells_0 : decode cX2_tells 0 = .ok (.aload_n 0, 1) := by decide +kernel
theorem dX2_tells_1 : decode cX2_tells 1 = .ok (.iload_n 2, 1) := by decide +kernel
theorem dX2_tells_2 : decode cX2_tells 2 = .ok (.invokevirtual 41, 3) := by decide +kernel
theorem dX2_tells_5 : decode cX2_tells 5 = .ok (.istore_n 3, 1) := by decide +kernel
theorem dX2_tells_6 : decode cX2_tells 6 = .ok (.iconst 0, 1) := by decide +kernel
theorem dX2_tells_7 : decode cX2_tells 7 = .ok (.istore 4, 2) := by decide +kernel
theorem dX2_tells_9 : decode cX2_tells 9 = .ok (.iload 4, 2) := by decide +kernel
theorem dX2_tells_11 : decode cX2_tells 11 = .ok (.aload_n 1, 1) := by decide +kernel
theorem dX2_tells_12 : decode cX2_tells 12 = .ok (.getfield 45, 3) := by decide +kernel
theorem dX2_tells_15 : decode cX2_tells 15 = .ok (.if_icmp .ge 75, 3) := by decide +kernel
theorem dX2_tells_18 : decode cX2_tells 18 = .ok (.aload_n 1, 1) := by decide +kernel
theorem dX2_tells_19 : decode cX2_tells 19 = .ok (.iload 4, 2) := by decide +kernel
theorem dX2_tells_21 : decode cX2_tells 21 = .ok (.iconst 2, 1) := by decide +kernel
theorem dX2_tells_22 : decode cX2_tells 22 = .ok (.invokevirtual 50, 3) := by decide +kernel
theorem dX2_tells_25 : decode cX2_tells 25 = .ok (.istore 5, 2) := by decide +kernel
theorem dX2_tells_27 : decode cX2_tells 27 = .ok (.aload_n 1, 1) := by decide +kernel
theorem dX2_tells_28 : decode cX2_tells 28 = .ok (.iload 4, 2) := by decide +kernel
theorem dX2_tells_30 : decode cX2_tells 30 = .ok (.iconst 3, 1) := by decide +kernel
theorem dX2_tells_31 : decode cX2_tells 31 = .ok (.invokevirtual 50, 3) := by decide +kernel
theorem dX2_tells_34 : decode cX2_tells 34 = .ok (.istore 6, 2) := by decide +kernel
theorem dX2_tells_36 : decode cX2_tells 36 = .ok (.aload_n 1, 1) := by decide +kernel
theorem dX2_tells_37 : decode cX2_tells 37 = .ok (.iload 4, 2) := by decide +kernel
theorem dX2_tells_39 : decode cX2_tells 39 = .ok (.iconst 0, 1) := by decide +kernel
theorem dX2_tells_40 : decode cX2_tells 40 = .ok (.invokevirtual 50, 3) := by decide +kernel
theorem dX2_tells_43 : decode cX2_tells 43 = .ok (.iload_n 2, 1) := by decide +kernel
theorem dX2_tells_44 : decode cX2_tells 44 = .ok (.if_icmp .ne 40, 3) := by decide +kernel
theorem dX2_tells_47 : decode cX2_tells 47 = .ok (.iload 5, 2) := by decide +kernel
theorem dX2_tells_49 : decode cX2_tells 49 = .ok (.iload 6, 2) := by decide +kernel
theorem dX2_tells_51 : decode cX2_tells 51 = .ok (.if_icmp .eq 15, 3) := by decide +kernel
theorem dX2_tells_54 : decode cX2_tells 54 = .ok (.aload_n 0, 1) := by decide +kernel
theorem dX2_tells_55 : decode cX2_tells 55 = .ok (.aload_n 1, 1) := by decide +kernel
theorem dX2_tells_56 : decode cX2_tells 56 = .ok (.iload 5, 2) := by decide +kernel
theorem dX2_tells_58 : decode cX2_tells 58 = .ok (.iload 6, 2) := by decide +kernel
theorem dX2_tells_60 : decode cX2_tells 60 = .ok (.invokevirtual 53, 3) := by decide +kernel
theorem dX2_tells_63 : decode cX2_tells 63 = .ok (.ifCond .eq 21, 3) := by decide +kernel
theorem dX2_tells_66 : decode cX2_tells 66 = .ok (.aload_n 0, 1) := by decide +kernel
theorem dX2_tells_67 : decode cX2_tells 67 = .ok (.aload_n 1, 1) := by decide +kernel
theorem dX2_tells_68 : decode cX2_tells 68 = .ok (.aload_n 1, 1) := by decide +kernel
theorem dX2_tells_69 : decode cX2_tells 69 = .ok (.iload 4, 2) := by decide +kernel
theorem dX2_tells_71 : decode cX2_tells 71 = .ok (.iconst 1, 1) := by decide +kernel
theorem dX2_tells_72 : decode cX2_tells 72 = .ok (.invokevirtual 50, 3) := by decide +kernel
theorem dX2_tells_75 : decode cX2_tells 75 = .ok (.iload 5, 2) := by decide +kernel
theorem dX2_tells_77 : decode cX2_tells 77 = .ok (.invokevirtual 53, 3) := by decide +kernel
theorem dX2_tells_80 : decode cX2_tells 80 = .ok (.istore_n 3, 1) := by decide +kernel
theorem dX2_tells_81 : decode cX2_tells 81 = .ok (.goto 9, 3) := by decide +kernel
theorem dX2_tells_84 : decode cX2_tells 84 = .ok (.iinc 4 1, 3) := by decide +kernel
theorem dX2_tells_87 : decode cX2_tells 87 = .ok (.goto (-78), 3) := by decide +kernel
theorem dX2_tells_90 : decode cX2_tells 90 = .ok (.getstatic 57, 3) := by decide +kernel
theorem dX2_tells_93 : decode cX2_tells 93 = .ok (.iload_n 2, 1) := by decide +kernel
theorem dX2_tells_94 : decode cX2_tells 94 = .ok (.iaload, 1) := by decide +kernel
theorem dX2_tells_95 : decode cX2_tells 95 = .ok (.getstatic 60, 3) := by decide +kernel
theorem dX2_tells_98 : decode cX2_tells 98 = .ok (.iload_n 2, 1) := by decide +kernel
theorem dX2_tells_99 : decode cX2_tells 99 = .ok (.iaload, 1) := by decide +kernel
theorem dX2_tells_100 : decode cX2_tells 100 = .ok (.iload_n 3, 1) := by decide +kernel
theorem dX2_tells_101 : decode cX2_tells 101 = .ok (.invokestatic 63, 3) := by decide +kernel
theorem dX2_tells_104 : decode cX2_tells 104 = .ok (.invokestatic 68, 3) := by decide +kernel
theorem dX2_tells_107 : decode cX2_tells 107 = .ok (.ireturn, 1) := by decide +kernel
theorem dX2_untold_0 : decode cX2_untold 0 = .ok (.iload_n 1, 1) := by decide +kernel
theorem dX2_untold_1 : decode cX2_untold 1 = .ok (.tableswitch 65 0 3 #[31, 38, 49, 56], 31) := by decide +kernel
theorem dX2_untold_32 : decode cX2_untold 32 = .ok (.aload_n 0, 1) := by decide +kernel
theorem dX2_untold_33 : decode cX2_untold 33 = .ok (.getfield 9, 3) := by decide +kernel
theorem dX2_untold_36 : decode cX2_untold 36 = .ok (.iconst 2, 1) := by decide +kernel
theorem dX2_untold_37 : decode cX2_untold 37 = .ok (.iaload, 1) := by decide +kernel
theorem dX2_untold_38 : decode cX2_untold 38 = .ok (.ireturn, 1) := by decide +kernel
theorem dX2_untold_39 : decode cX2_untold 39 = .ok (.aload_n 0, 1) := by decide +kernel
theorem dX2_untold_40 : decode cX2_untold 40 = .ok (.getfield 9, 3) := by decide +kernel
theorem dX2_untold_43 : decode cX2_untold 43 = .ok (.iconst 3, 1) := by decide +kernel
theorem dX2_untold_44 : decode cX2_untold 44 = .ok (.iaload, 1) := by decide +kernel
theorem dX2_untold_45 : decode cX2_untold 45 = .ok (.iconst 2, 1) := by decide +kernel
theorem dX2_untold_46 : decode cX2_untold 46 = .ok (.idiv, 1) := by decide +kernel
theorem dX2_untold_47 : decode cX2_untold 47 = .ok (.iconst 1, 1) := by decide +kernel
theorem dX2_untold_48 : decode cX2_untold 48 = .ok (.iadd, 1) := by decide +kernel
theorem dX2_untold_49 : decode cX2_untold 49 = .ok (.ireturn, 1) := by decide +kernel
theorem dX2_untold_50 : decode cX2_untold 50 = .ok (.aload_n 0, 1) := by decide +kernel
theorem dX2_untold_51 : decode cX2_untold 51 = .ok (.getfield 9, 3) := by decide +kernel
theorem dX2_untold_54 : decode cX2_untold 54 = .ok (.iconst 4, 1) := by decide +kernel
theorem dX2_untold_55 : decode cX2_untold 55 = .ok (.iaload, 1) := by decide +kernel
theorem dX2_untold_56 : decode cX2_untold 56 = .ok (.ireturn, 1) := by decide +kernel
theorem dX2_untold_57 : decode cX2_untold 57 = .ok (.iconst 5, 1) := by decide +kernel
theorem dX2_untold_58 : decode cX2_untold 58 = .ok (.aload_n 0, 1) := by decide +kernel
theorem dX2_untold_59 : decode cX2_untold 59 = .ok (.getfield 9, 3) := by decide +kernel
theorem dX2_untold_62 : decode cX2_untold 62 = .ok (.iconst 5, 1) := by decide +kernel
theorem dX2_untold_63 : decode cX2_untold 63 = .ok (.iaload, 1) := by decide +kernel
theorem dX2_untold_64 : decode cX2_untold 64 = .ok (.imul, 1) := by decide +kernel
theorem dX2_untold_65 : decode cX2_untold 65 = .ok (.ireturn, 1) := by decide +kernel
theorem dX2_untold_66 : decode cX2_untold 66 = .ok (.sipush 900, 3) := by decide +kernel
theorem dX2_untold_69 : decode cX2_untold 69 = .ok (.ireturn, 1) := by decide +kernel
theorem dX2_reckon_0 : decode cX2_reckon 0 = .ok (.aload_n 0, 1) := by decide +kernel
theorem dX2_reckon_1 : decode cX2_reckon 1 = .ok (.iconst 0, 1) := by decide +kernel
theorem dX2_reckon_2 : decode cX2_reckon 2 = .ok (.putfield 71, 3) := by decide +kernel
theorem dX2_reckon_5 : decode cX2_reckon 5 = .ok (.iload_n 3, 1) := by decide +kernel
theorem dX2_reckon_6 : decode cX2_reckon 6 = .ok (.aload_n 1, 1) := by decide +kernel
theorem dX2_reckon_7 : decode cX2_reckon 7 = .ok (.getfield 74, 3) := by decide +kernel
theorem dX2_reckon_10 : decode cX2_reckon 10 = .ok (.invokestatic 63, 3) := by decide +kernel
theorem dX2_reckon_13 : decode cX2_reckon 13 = .ok (.istore 4, 2) := by decide +kernel
theorem dX2_reckon_15 : decode cX2_reckon 15 = .ok (.iconst 0, 1) := by decide +kernel
theorem dX2_reckon_16 : decode cX2_reckon 16 = .ok (.iload_n 2, 1) := by decide +kernel
theorem dX2_reckon_17 : decode cX2_reckon 17 = .ok (.invokestatic 68, 3) := by decide +kernel
theorem dX2_reckon_20 : decode cX2_reckon 20 = .ok (.istore 5, 2) := by decide +kernel
theorem dX2_reckon_22 : decode cX2_reckon 22 = .ok (.iload 5, 2) := by decide +kernel
theorem dX2_reckon_24 : decode cX2_reckon 24 = .ok (.iload 4, 2) := by decide +kernel
theorem dX2_reckon_26 : decode cX2_reckon 26 = .ok (.if_icmp .ge 264, 3) := by decide +kernel
theorem dX2_reckon_29 : decode cX2_reckon 29 = .ok (.aload_n 1, 1) := by decide +kernel
theorem dX2_reckon_30 : decode cX2_reckon 30 = .ok (.getfield 77, 3) := by decide +kernel
theorem dX2_reckon_33 : decode cX2_reckon 33 = .ok (.iload 5, 2) := by decide +kernel
theorem dX2_reckon_35 : decode cX2_reckon 35 = .ok (.iaload, 1) := by decide +kernel
theorem dX2_reckon_36 : decode cX2_reckon 36 = .ok (.bipush 16, 2) := by decide +kernel
theorem dX2_reckon_38 : decode cX2_reckon 38 = .ok (.irem, 1) := by decide +kernel
theorem dX2_reckon_39 : decode cX2_reckon 39 = .ok (.istore 6, 2) := by decide +kernel
theorem dX2_reckon_41 : decode cX2_reckon 41 = .ok (.aload_n 1, 1) := by decide +kernel
theorem dX2_reckon_42 : decode cX2_reckon 42 = .ok (.getfield 77, 3) := by decide +kernel
theorem dX2_reckon_45 : decode cX2_reckon 45 = .ok (.iload 5, 2) := by decide +kernel
theorem dX2_reckon_47 : decode cX2_reckon 47 = .ok (.iaload, 1) := by decide +kernel
theorem dX2_reckon_48 : decode cX2_reckon 48 = .ok (.bipush 16, 2) := by decide +kernel
theorem dX2_reckon_50 : decode cX2_reckon 50 = .ok (.idiv, 1) := by decide +kernel
theorem dX2_reckon_51 : decode cX2_reckon 51 = .ok (.istore 7, 2) := by decide +kernel
theorem dX2_reckon_53 : decode cX2_reckon 53 = .ok (.iload 6, 2) := by decide +kernel
theorem dX2_reckon_55 : decode cX2_reckon 55 = .ok (.ifCond .ne 36, 3) := by decide +kernel
theorem dX2_reckon_58 : decode cX2_reckon 58 = .ok (.aload_n 0, 1) := by decide +kernel
theorem dX2_reckon_59 : decode cX2_reckon 59 = .ok (.getfield 71, 3) := by decide +kernel
theorem dX2_reckon_62 : decode cX2_reckon 62 = .ok (.bipush 64, 2) := by decide +kernel
theorem dX2_reckon_64 : decode cX2_reckon 64 = .ok (.if_icmp .ge 27, 3) := by decide +kernel
theorem dX2_reckon_67 : decode cX2_reckon 67 = .ok (.aload_n 0, 1) := by decide +kernel
theorem dX2_reckon_68 : decode cX2_reckon 68 = .ok (.getfield 13, 3) := by decide +kernel
theorem dX2_reckon_71 : decode cX2_reckon 71 = .ok (.aload_n 0, 1) := by decide +kernel
theorem dX2_reckon_72 : decode cX2_reckon 72 = .ok (.getfield 71, 3) := by decide +kernel
theorem dX2_reckon_75 : decode cX2_reckon 75 = .ok (.iload 7, 2) := by decide +kernel
theorem dX2_reckon_77 : decode cX2_reckon 77 = .ok (.iastore, 1) := by decide +kernel
theorem dX2_reckon_78 : decode cX2_reckon 78 = .ok (.aload_n 0, 1) := by decide +kernel
theorem dX2_reckon_79 : decode cX2_reckon 79 = .ok (.dup, 1) := by decide +kernel
theorem dX2_reckon_80 : decode cX2_reckon 80 = .ok (.getfield 71, 3) := by decide +kernel
theorem dX2_reckon_83 : decode cX2_reckon 83 = .ok (.iconst 1, 1) := by decide +kernel
theorem dX2_reckon_84 : decode cX2_reckon 84 = .ok (.iadd, 1) := by decide +kernel
theorem dX2_reckon_85 : decode cX2_reckon 85 = .ok (.putfield 71, 3) := by decide +kernel
theorem dX2_reckon_88 : decode cX2_reckon 88 = .ok (.goto 196, 3) := by decide +kernel
theorem dX2_reckon_91 : decode cX2_reckon 91 = .ok (.iload 6, 2) := by decide +kernel
theorem dX2_reckon_93 : decode cX2_reckon 93 = .ok (.iconst 1, 1) := by decide +kernel
theorem dX2_reckon_94 : decode cX2_reckon 94 = .ok (.if_icmp .ne 53, 3) := by decide +kernel
theorem dX2_reckon_97 : decode cX2_reckon 97 = .ok (.aload_n 0, 1) := by decide +kernel
theorem dX2_reckon_98 : decode cX2_reckon 98 = .ok (.getfield 71, 3) := by decide +kernel
theorem dX2_reckon_101 : decode cX2_reckon 101 = .ok (.bipush 64, 2) := by decide +kernel
theorem dX2_reckon_103 : decode cX2_reckon 103 = .ok (.if_icmp .ge 44, 3) := by decide +kernel
theorem dX2_reckon_106 : decode cX2_reckon 106 = .ok (.iload 7, 2) := by decide +kernel
theorem dX2_reckon_108 : decode cX2_reckon 108 = .ok (.ifCond .lt 39, 3) := by decide +kernel
theorem dX2_reckon_111 : decode cX2_reckon 111 = .ok (.iload 7, 2) := by decide +kernel
theorem dX2_reckon_113 : decode cX2_reckon 113 = .ok (.bipush 9, 2) := by decide +kernel
theorem dX2_reckon_115 : decode cX2_reckon 115 = .ok (.if_icmp .gt 32, 3) := by decide +kernel
theorem dX2_reckon_118 : decode cX2_reckon 118 = .ok (.aload_n 0, 1) := by decide +kernel
theorem dX2_reckon_119 : decode cX2_reckon 119 = .ok (.getfield 13, 3) := by decide +kernel
theorem dX2_reckon_122 : decode cX2_reckon 122 = .ok (.aload_n 0, 1) := by decide +kernel
theorem dX2_reckon_123 : decode cX2_reckon 123 = .ok (.getfield 71, 3) := by decide +kernel
theorem dX2_reckon_126 : decode cX2_reckon 126 = .ok (.aload_n 0, 1) := by decide +kernel
theorem dX2_reckon_127 : decode cX2_reckon 127 = .ok (.getfield 9, 3) := by decide +kernel
theorem dX2_reckon_130 : decode cX2_reckon 130 = .ok (.iload 7, 2) := by decide +kernel
theorem dX2_reckon_132 : decode cX2_reckon 132 = .ok (.iaload, 1) := by decide +kernel
theorem dX2_reckon_133 : decode cX2_reckon 133 = .ok (.iastore, 1) := by decide +kernel
theorem dX2_reckon_134 : decode cX2_reckon 134 = .ok (.aload_n 0, 1) := by decide +kernel
theorem dX2_reckon_135 : decode cX2_reckon 135 = .ok (.dup, 1) := by decide +kernel
theorem dX2_reckon_136 : decode cX2_reckon 136 = .ok (.getfield 71, 3) := by decide +kernel
theorem dX2_reckon_139 : decode cX2_reckon 139 = .ok (.iconst 1, 1) := by decide +kernel
theorem dX2_reckon_140 : decode cX2_reckon 140 = .ok (.iadd, 1) := by decide +kernel
theorem dX2_reckon_141 : decode cX2_reckon 141 = .ok (.putfield 71, 3) := by decide +kernel
theorem dX2_reckon_144 : decode cX2_reckon 144 = .ok (.goto 140, 3) := by decide +kernel
theorem dX2_reckon_147 : decode cX2_reckon 147 = .ok (.iload 6, 2) := by decide +kernel
theorem dX2_reckon_149 : decode cX2_reckon 149 = .ok (.iconst 2, 1) := by decide +kernel
theorem dX2_reckon_150 : decode cX2_reckon 150 = .ok (.if_icmp .ne 34, 3) := by decide +kernel
theorem dX2_reckon_153 : decode cX2_reckon 153 = .ok (.aload_n 0, 1) := by decide +kernel
theorem dX2_reckon_154 : decode cX2_reckon 154 = .ok (.getfield 71, 3) := by decide +kernel
theorem dX2_reckon_157 : decode cX2_reckon 157 = .ok (.ifCond .le 27, 3) := by decide +kernel
theorem dX2_reckon_160 : decode cX2_reckon 160 = .ok (.iload 7, 2) := by decide +kernel
theorem dX2_reckon_162 : decode cX2_reckon 162 = .ok (.ifCond .le 22, 3) := by decide +kernel
theorem dX2_reckon_165 : decode cX2_reckon 165 = .ok (.aload_n 0, 1) := by decide +kernel
theorem dX2_reckon_166 : decode cX2_reckon 166 = .ok (.getfield 13, 3) := by decide +kernel
theorem dX2_reckon_169 : decode cX2_reckon 169 = .ok (.aload_n 0, 1) := by decide +kernel
theorem dX2_reckon_170 : decode cX2_reckon 170 = .ok (.getfield 71, 3) := by decide +kernel
theorem dX2_reckon_173 : decode cX2_reckon 173 = .ok (.iconst 1, 1) := by decide +kernel
theorem dX2_reckon_174 : decode cX2_reckon 174 = .ok (.isub, 1) := by decide +kernel
theorem dX2_reckon_175 : decode cX2_reckon 175 = .ok (.dup2, 1) := by decide +kernel
theorem dX2_reckon_176 : decode cX2_reckon 176 = .ok (.iaload, 1) := by decide +kernel
theorem dX2_reckon_177 : decode cX2_reckon 177 = .ok (.iload 7, 2) := by decide +kernel
theorem dX2_reckon_179 : decode cX2_reckon 179 = .ok (.idiv, 1) := by decide +kernel
theorem dX2_reckon_180 : decode cX2_reckon 180 = .ok (.iastore, 1) := by decide +kernel
theorem dX2_reckon_181 : decode cX2_reckon 181 = .ok (.goto 103, 3) := by decide +kernel
theorem dX2_reckon_184 : decode cX2_reckon 184 = .ok (.iload 6, 2) := by decide +kernel
theorem dX2_reckon_186 : decode cX2_reckon 186 = .ok (.iconst 3, 1) := by decide +kernel
theorem dX2_reckon_187 : decode cX2_reckon 187 = .ok (.if_icmp .ne 37, 3) := by decide +kernel
theorem dX2_reckon_190 : decode cX2_reckon 190 = .ok (.aload_n 0, 1) := by decide +kernel
theorem dX2_reckon_191 : decode cX2_reckon 191 = .ok (.getfield 71, 3) := by decide +kernel
theorem dX2_reckon_194 : decode cX2_reckon 194 = .ok (.ifCond .le 30, 3) := by decide +kernel
theorem dX2_reckon_197 : decode cX2_reckon 197 = .ok (.aload_n 0, 1) := by decide +kernel
theorem dX2_reckon_198 : decode cX2_reckon 198 = .ok (.getfield 13, 3) := by decide +kernel
theorem dX2_reckon_201 : decode cX2_reckon 201 = .ok (.aload_n 0, 1) := by decide +kernel
theorem dX2_reckon_202 : decode cX2_reckon 202 = .ok (.getfield 71, 3) := by decide +kernel
theorem dX2_reckon_205 : decode cX2_reckon 205 = .ok (.iconst 1, 1) := by decide +kernel
theorem dX2_reckon_206 : decode cX2_reckon 206 = .ok (.isub, 1) := by decide +kernel
theorem dX2_reckon_207 : decode cX2_reckon 207 = .ok (.iconst 1, 1) := by decide +kernel
theorem dX2_reckon_208 : decode cX2_reckon 208 = .ok (.aload_n 0, 1) := by decide +kernel
theorem dX2_reckon_209 : decode cX2_reckon 209 = .ok (.getfield 13, 3) := by decide +kernel
theorem dX2_reckon_212 : decode cX2_reckon 212 = .ok (.aload_n 0, 1) := by decide +kernel
theorem dX2_reckon_213 : decode cX2_reckon 213 = .ok (.getfield 71, 3) := by decide +kernel
theorem dX2_reckon_216 : decode cX2_reckon 216 = .ok (.iconst 1, 1) := by decide +kernel
theorem dX2_reckon_217 : decode cX2_reckon 217 = .ok (.isub, 1) := by decide +kernel
theorem dX2_reckon_218 : decode cX2_reckon 218 = .ok (.iaload, 1) := by decide +kernel
theorem dX2_reckon_219 : decode cX2_reckon 219 = .ok (.isub, 1) := by decide +kernel
theorem dX2_reckon_220 : decode cX2_reckon 220 = .ok (.iastore, 1) := by decide +kernel
theorem dX2_reckon_221 : decode cX2_reckon 221 = .ok (.goto 63, 3) := by decide +kernel
theorem dX2_reckon_224 : decode cX2_reckon 224 = .ok (.iload 6, 2) := by decide +kernel
theorem dX2_reckon_226 : decode cX2_reckon 226 = .ok (.iconst 4, 1) := by decide +kernel
theorem dX2_reckon_227 : decode cX2_reckon 227 = .ok (.if_icmp .lt 57, 3) := by decide +kernel
theorem dX2_reckon_230 : decode cX2_reckon 230 = .ok (.aload_n 0, 1) := by decide +kernel
theorem dX2_reckon_231 : decode cX2_reckon 231 = .ok (.getfield 71, 3) := by decide +kernel
theorem dX2_reckon_234 : decode cX2_reckon 234 = .ok (.iconst 1, 1) := by decide +kernel
theorem dX2_reckon_235 : decode cX2_reckon 235 = .ok (.if_icmp .le 49, 3) := by decide +kernel
theorem dX2_reckon_238 : decode cX2_reckon 238 = .ok (.aload_n 0, 1) := by decide +kernel
theorem dX2_reckon_239 : decode cX2_reckon 239 = .ok (.dup, 1) := by decide +kernel
theorem dX2_reckon_240 : decode cX2_reckon 240 = .ok (.getfield 71, 3) := by decide +kernel
theorem dX2_reckon_243 : decode cX2_reckon 243 = .ok (.iconst 1, 1) := by decide +kernel
theorem dX2_reckon_244 : decode cX2_reckon 244 = .ok (.isub, 1) := by decide +kernel
theorem dX2_reckon_245 : decode cX2_reckon 245 = .ok (.putfield 71, 3) := by decide +kernel
theorem dX2_reckon_248 : decode cX2_reckon 248 = .ok (.aload_n 0, 1) := by decide +kernel
theorem dX2_reckon_249 : decode cX2_reckon 249 = .ok (.getfield 13, 3) := by decide +kernel
theorem dX2_reckon_252 : decode cX2_reckon 252 = .ok (.aload_n 0, 1) := by decide +kernel
theorem dX2_reckon_253 : decode cX2_reckon 253 = .ok (.getfield 71, 3) := by decide +kernel
theorem dX2_reckon_256 : decode cX2_reckon 256 = .ok (.iconst 1, 1) := by decide +kernel
theorem dX2_reckon_257 : decode cX2_reckon 257 = .ok (.isub, 1) := by decide +kernel
theorem dX2_reckon_258 : decode cX2_reckon 258 = .ok (.iload 6, 2) := by decide +kernel
theorem dX2_reckon_260 : decode cX2_reckon 260 = .ok (.aload_n 0, 1) := by decide +kernel
theorem dX2_reckon_261 : decode cX2_reckon 261 = .ok (.getfield 13, 3) := by decide +kernel
theorem dX2_reckon_264 : decode cX2_reckon 264 = .ok (.aload_n 0, 1) := by decide +kernel
theorem dX2_reckon_265 : decode cX2_reckon 265 = .ok (.getfield 71, 3) := by decide +kernel
theorem dX2_reckon_268 : decode cX2_reckon 268 = .ok (.iconst 1, 1) := by decide +kernel
theorem dX2_reckon_269 : decode cX2_reckon 269 = .ok (.isub, 1) := by decide +kernel
theorem dX2_reckon_270 : decode cX2_reckon 270 = .ok (.iaload, 1) := by decide +kernel
theorem dX2_reckon_271 : decode cX2_reckon 271 = .ok (.aload_n 0, 1) := by decide +kernel
theorem dX2_reckon_272 : decode cX2_reckon 272 = .ok (.getfield 13, 3) := by decide +kernel
theorem dX2_reckon_275 : decode cX2_reckon 275 = .ok (.aload_n 0, 1) := by decide +kernel
theorem dX2_reckon_276 : decode cX2_reckon 276 = .ok (.getfield 71, 3) := by decide +kernel
theorem dX2_reckon_279 : decode cX2_reckon 279 = .ok (.iaload, 1) := by decide +kernel
theorem dX2_reckon_280 : decode cX2_reckon 280 = .ok (.invokestatic 80, 3) := by decide +kernel
theorem dX2_reckon_283 : decode cX2_reckon 283 = .ok (.iastore, 1) := by decide +kernel
theorem dX2_reckon_284 : decode cX2_reckon 284 = .ok (.iinc 5 1, 3) := by decide +kernel
theorem dX2_reckon_287 : decode cX2_reckon 287 = .ok (.goto (-265), 3) := by decide +kernel
theorem dX2_reckon_290 : decode cX2_reckon 290 = .ok (.aload_n 0, 1) := by decide +kernel
theorem dX2_reckon_291 : decode cX2_reckon 291 = .ok (.getfield 71, 3) := by decide +kernel
theorem dX2_reckon_294 : decode cX2_reckon 294 = .ok (.ifCond .le 17, 3) := by decide +kernel
theorem dX2_reckon_297 : decode cX2_reckon 297 = .ok (.aload_n 0, 1) := by decide +kernel
theorem dX2_reckon_298 : decode cX2_reckon 298 = .ok (.getfield 13, 3) := by decide +kernel
theorem dX2_reckon_301 : decode cX2_reckon 301 = .ok (.aload_n 0, 1) := by decide +kernel
theorem dX2_reckon_302 : decode cX2_reckon 302 = .ok (.getfield 71, 3) := by decide +kernel
theorem dX2_reckon_305 : decode cX2_reckon 305 = .ok (.iconst 1, 1) := by decide +kernel
theorem dX2_reckon_306 : decode cX2_reckon 306 = .ok (.isub, 1) := by decide +kernel
theorem dX2_reckon_307 : decode cX2_reckon 307 = .ok (.iaload, 1) := by decide +kernel
theorem dX2_reckon_308 : decode cX2_reckon 308 = .ok (.goto 4, 3) := by decide +kernel
theorem dX2_reckon_311 : decode cX2_reckon 311 = .ok (.iconst 0, 1) := by decide +kernel
theorem dX2_reckon_312 : decode cX2_reckon 312 = .ok (.ireturn, 1) := by decide +kernel
theorem dX2_join_0 : decode cX2_join 0 = .ok (.iload_n 0, 1) := by decide +kernel
theorem dX2_join_1 : decode cX2_join 1 = .ok (.tableswitch 92 4 10 #[43, 47, 51, 55, 66, 77, 88], 43) := by decide +kernel
theorem dX2_join_44 : decode cX2_join 44 = .ok (.iload_n 1, 1) := by decide +kernel
theorem dX2_join_45 : decode cX2_join 45 = .ok (.iload_n 2, 1) := by decide +kernel
theorem dX2_join_46 : decode cX2_join 46 = .ok (.iadd, 1) := by decide +kernel
theorem dX2_join_47 : decode cX2_join 47 = .ok (.ireturn, 1) := by decide +kernel
theorem dX2_join_48 : decode cX2_join 48 = .ok (.iload_n 1, 1) := by decide +kernel
theorem dX2_join_49 : decode cX2_join 49 = .ok (.iload_n 2, 1) := by decide +kernel
theorem dX2_join_50 : decode cX2_join 50 = .ok (.isub, 1) := by decide +kernel
theorem dX2_join_51 : decode cX2_join 51 = .ok (.ireturn, 1) := by decide +kernel
theorem dX2_join_52 : decode cX2_join 52 = .ok (.iload_n 1, 1) := by decide +kernel
theorem dX2_join_53 : decode cX2_join 53 = .ok (.iload_n 2, 1) := by decide +kernel
theorem dX2_join_54 : decode cX2_join 54 = .ok (.imul, 1) := by decide +kernel
theorem dX2_join_55 : decode cX2_join 55 = .ok (.ireturn, 1) := by decide +kernel
theorem dX2_join_56 : decode cX2_join 56 = .ok (.iload_n 1, 1) := by decide +kernel
theorem dX2_join_57 : decode cX2_join 57 = .ok (.iload_n 2, 1) := by decide +kernel
theorem dX2_join_58 : decode cX2_join 58 = .ok (.if_icmp .ge 7, 3) := by decide +kernel
theorem dX2_join_61 : decode cX2_join 61 = .ok (.iconst 1, 1) := by decide +kernel
theorem dX2_join_62 : decode cX2_join 62 = .ok (.goto 4, 3) := by decide +kernel
theorem dX2_join_65 : decode cX2_join 65 = .ok (.iconst 0, 1) := by decide +kernel
theorem dX2_join_66 : decode cX2_join 66 = .ok (.ireturn, 1) := by decide +kernel
theorem dX2_join_67 : decode cX2_join 67 = .ok (.iload_n 1, 1) := by decide +kernel
theorem dX2_join_68 : decode cX2_join 68 = .ok (.iload_n 2, 1) := by decide +kernel
theorem dX2_join_69 : decode cX2_join 69 = .ok (.if_icmp .ne 7, 3) := by decide +kernel
theorem dX2_join_72 : decode cX2_join 72 = .ok (.iconst 1, 1) := by decide +kernel
theorem dX2_join_73 : decode cX2_join 73 = .ok (.goto 4, 3) := by decide +kernel
theorem dX2_join_76 : decode cX2_join 76 = .ok (.iconst 0, 1) := by decide +kernel
theorem dX2_join_77 : decode cX2_join 77 = .ok (.ireturn, 1) := by decide +kernel
theorem dX2_join_78 : decode cX2_join 78 = .ok (.iload_n 1, 1) := by decide +kernel
theorem dX2_join_79 : decode cX2_join 79 = .ok (.iload_n 2, 1) := by decide +kernel
theorem dX2_join_80 : decode cX2_join 80 = .ok (.if_icmp .le 7, 3) := by decide +kernel
theorem dX2_join_83 : decode cX2_join 83 = .ok (.iconst 1, 1) := by decide +kernel
theorem dX2_join_84 : decode cX2_join 84 = .ok (.goto 4, 3) := by decide +kernel
theorem dX2_join_87 : decode cX2_join 87 = .ok (.iconst 0, 1) := by decide +kernel
theorem dX2_join_88 : decode cX2_join 88 = .ok (.ireturn, 1) := by decide +kernel
theorem dX2_join_89 : decode cX2_join 89 = .ok (.iload_n 1, 1) := by decide +kernel
theorem dX2_join_90 : decode cX2_join 90 = .ok (.iload_n 2, 1) := by decide +kernel
theorem dX2_join_91 : decode cX2_join 91 = .ok (.iand, 1) := by decide +kernel
theorem dX2_join_92 : decode cX2_join 92 = .ok (.ireturn, 1) := by decide +kernel
theorem dX2_join_93 : decode cX2_join 93 = .ok (.iload_n 1, 1) := by decide +kernel
theorem dX2_join_94 : decode cX2_join 94 = .ok (.iload_n 2, 1) := by decide +kernel
theorem dX2_join_95 : decode cX2_join 95 = .ok (.ior, 1) := by decide +kernel
theorem dX2_join_96 : decode cX2_join 96 = .ok (.ireturn, 1) := by decide +kernel
theorem dX3_init_0 : decode cX3_init 0 = .ok (.aload_n 0, 1) := by decide +kernel
theorem dX3_init_1 : decode cX3_init 1 = .ok (.invokespecial 1, 3) := by decide +kernel
theorem dX3_init_4 : decode cX3_init 4 = .ok (.aload_n 0, 1) := by decide +kernel
theorem dX3_init_5 : decode cX3_init 5 = .ok (.bipush 6, 2) := by decide +kernel
theorem dX3_init_7 : decode cX3_init 7 = .ok (.anewarray 9, 3) := by decide +kernel
theorem dX3_init_10 : decode cX3_init 10 = .ok (.putfield 11, 3) := by decide +kernel
theorem dX3_init_13 : decode cX3_init 13 = .ok (.iconst 0, 1) := by decide +kernel
theorem dX3_init_14 : decode cX3_init 14 = .ok (.istore_n 1, 1) := by decide +kernel
theorem dX3_init_15 : decode cX3_init 15 = .ok (.iload_n 1, 1) := by decide +kernel
theorem dX3_init_16 : decode cX3_init 16 = .ok (.bipush 6, 2) := by decide +kernel
theorem dX3_init_18 : decode cX3_init 18 = .ok (.if_icmp .ge 22, 3) := by decide +kernel
theorem dX3_init_21 : decode cX3_init 21 = .ok (.aload_n 0, 1) := by decide +kernel
theorem dX3_init_22 : decode cX3_init 22 = .ok (.getfield 11, 3) := by decide +kernel
theorem dX3_init_25 : decode cX3_init 25 = .ok (.iload_n 1, 1) := by decide +kernel
theorem dX3_init_26 : decode cX3_init 26 = .ok (.new 9, 3) := by decide +kernel
theorem dX3_init_29 : decode cX3_init 29 = .ok (.dup, 1) := by decide +kernel
theorem dX3_init_30 : decode cX3_init 30 = .ok (.invokespecial 15, 3) := by decide +kernel
theorem dX3_init_33 : decode cX3_init 33 = .ok (.aastore, 1) := by decide +kernel
theorem dX3_init_34 : decode cX3_init 34 = .ok (.iinc 1 1, 3) := by decide +kernel
theorem dX3_init_37 : decode cX3_init 37 = .ok (.goto (-22), 3) := by decide +kernel
theorem dX3_init_40 : decode cX3_init 40 = .ok (.return_, 1) := by decide +kernel
theorem dX3_keep_0 : decode cX3_keep 0 = .ok (.aload_n 0, 1) := by decide +kernel
theorem dX3_keep_1 : decode cX3_keep 1 = .ok (.getfield 11, 3) := by decide +kernel
theorem dX3_keep_4 : decode cX3_keep 4 = .ok (.aload_n 0, 1) := by decide +kernel
theorem dX3_keep_5 : decode cX3_keep 5 = .ok (.getfield 16, 3) := by decide +kernel
theorem dX3_keep_8 : decode cX3_keep 8 = .ok (.aload_n 0, 1) := by decide +kernel
theorem dX3_keep_9 : decode cX3_keep 9 = .ok (.getfield 20, 3) := by decide +kernel
theorem dX3_keep_12 : decode cX3_keep 12 = .ok (.iadd, 1) := by decide +kernel
theorem dX3_keep_13 : decode cX3_keep 13 = .ok (.bipush 6, 2) := by decide +kernel
theorem dX3_keep_15 : decode cX3_keep 15 = .ok (.irem, 1) := by decide +kernel
theorem dX3_keep_16 : decode cX3_keep 16 = .ok (.aaload, 1) := by decide +kernel
theorem dX3_keep_17 : decode cX3_keep 17 = .ok (.aload_n 1, 1) := by decide +kernel
theorem dX3_keep_18 : decode cX3_keep 18 = .ok (.invokevirtual 23, 3) := by decide +kernel
theorem dX3_keep_21 : decode cX3_keep 21 = .ok (.aload_n 0, 1) := by decide +kernel
theorem dX3_keep_22 : decode cX3_keep 22 = .ok (.getfield 20, 3) := by decide +kernel
theorem dX3_keep_25 : decode cX3_keep 25 = .ok (.bipush 6, 2) := by decide +kernel
theorem dX3_keep_27 : decode cX3_keep 27 = .ok (.if_icmp .ge 16, 3) := by decide +kernel
theorem dX3_keep_30 : decode cX3_keep 30 = .ok (.aload_n 0, 1) := by decide +kernel
theorem dX3_keep_31 : decode cX3_keep 31 = .ok (.dup, 1) := by decide +kernel
theorem dX3_keep_32 : decode cX3_keep 32 = .ok (.getfield 20, 3) := by decide +kernel
theorem dX3_keep_35 : decode cX3_keep 35 = .ok (.iconst 1, 1) := by decide +kernel
theorem dX3_keep_36 : decode cX3_keep 36 = .ok (.iadd, 1) := by decide +kernel
theorem dX3_keep_37 : decode cX3_keep 37 = .ok (.putfield 20, 3) := by decide +kernel
theorem dX3_keep_40 : decode cX3_keep 40 = .ok (.goto 16, 3) := by decide +kernel
theorem dX3_keep_43 : decode cX3_keep 43 = .ok (.aload_n 0, 1) := by decide +kernel
theorem dX3_keep_44 : decode cX3_keep 44 = .ok (.aload_n 0, 1) := by decide +kernel
theorem dX3_keep_45 : decode cX3_keep 45 = .ok (.getfield 16, 3) := by decide +kernel
theorem dX3_keep_48 : decode cX3_keep 48 = .ok (.iconst 1, 1) := by decide +kernel
theorem dX3_keep_49 : decode cX3_keep 49 = .ok (.iadd, 1) := by decide +kernel
theorem dX3_keep_50 : decode cX3_keep 50 = .ok (.bipush 6, 2) := by decide +kernel
theorem dX3_keep_52 : decode cX3_keep 52 = .ok (.irem, 1) := by decide +kernel
theorem dX3_keep_53 : decode cX3_keep 53 = .ok (.putfield 16, 3) := by decide +kernel
theorem dX3_keep_56 : decode cX3_keep 56 = .ok (.return_, 1) := by decide +kernel
theorem dX3_goBack_0 : decode cX3_goBack 0 = .ok (.aload_n 0, 1) := by decide +kernel
theorem dX3_goBack_1 : decode cX3_goBack 1 = .ok (.getfield 20, 3) := by decide +kernel
theorem dX3_goBack_4 : decode cX3_goBack 4 = .ok (.ifCond .ne 5, 3) := by decide +kernel
theorem dX3_goBack_7 : decode cX3_goBack 7 = .ok (.iconst 0, 1) := by decide +kernel
theorem dX3_goBack_8 : decode cX3_goBack 8 = .ok (.ireturn, 1) := by decide +kernel
theorem dX3_goBack_9 : decode cX3_goBack 9 = .ok (.aload_n 0, 1) := by decide +kernel
theorem dX3_goBack_10 : decode cX3_goBack 10 = .ok (.dup, 1) := by decide +kernel
theorem dX3_goBack_11 : decode cX3_goBack 11 = .ok (.getfield 20, 3) := by decide +kernel
theorem dX3_goBack_14 : decode cX3_goBack 14 = .ok (.iconst 1, 1) := by decide +kernel
theorem dX3_goBack_15 : decode cX3_goBack 15 = .ok (.isub, 1) := by decide +kernel
theorem dX3_goBack_16 : decode cX3_goBack 16 = .ok (.putfield 20, 3) := by decide +kernel
theorem dX3_goBack_19 : decode cX3_goBack 19 = .ok (.aload_n 1, 1) := by decide +kernel
theorem dX3_goBack_20 : decode cX3_goBack 20 = .ok (.aload_n 0, 1) := by decide +kernel
theorem dX3_goBack_21 : decode cX3_goBack 21 = .ok (.getfield 11, 3) := by decide +kernel
theorem dX3_goBack_24 : decode cX3_goBack 24 = .ok (.aload_n 0, 1) := by decide +kernel
theorem dX3_goBack_25 : decode cX3_goBack 25 = .ok (.getfield 16, 3) := by decide +kernel
theorem dX3_goBack_28 : decode cX3_goBack 28 = .ok (.aload_n 0, 1) := by decide +kernel
theorem dX3_goBack_29 : decode cX3_goBack 29 = .ok (.getfield 20, 3) := by decide +kernel
theorem dX3_goBack_32 : decode cX3_goBack 32 = .ok (.iadd, 1) := by decide +kernel
theorem dX3_goBack_33 : decode cX3_goBack 33 = .ok (.bipush 6, 2) := by decide +kernel
theorem dX3_goBack_35 : decode cX3_goBack 35 = .ok (.irem, 1) := by decide +kernel
theorem dX3_goBack_36 : decode cX3_goBack 36 = .ok (.aaload, 1) := by decide +kernel
theorem dX3_goBack_37 : decode cX3_goBack 37 = .ok (.invokevirtual 23, 3) := by decide +kernel
theorem dX3_goBack_40 : decode cX3_goBack 40 = .ok (.iconst 1, 1) := by decide +kernel
theorem dX3_goBack_41 : decode cX3_goBack 41 = .ok (.ireturn, 1) := by decide +kernel
theorem dX3_forget_0 : decode cX3_forget 0 = .ok (.aload_n 0, 1) := by decide +kernel
theorem dX3_forget_1 : decode cX3_forget 1 = .ok (.iconst 0, 1) := by decide +kernel
theorem dX3_forget_2 : decode cX3_forget 2 = .ok (.putfield 20, 3) := by decide +kernel
theorem dX3_forget_5 : decode cX3_forget 5 = .ok (.return_, 1) := by decide +kernel
theorem dX4_init_0 : decode cX4_init 0 = .ok (.aload_n 0, 1) := by decide +kernel
theorem dX4_init_1 : decode cX4_init 1 = .ok (.invokespecial 3, 3) := by decide +kernel
theorem dX4_init_4 : decode cX4_init 4 = .ok (.aload_n 0, 1) := by decide +kernel
theorem dX4_init_5 : decode cX4_init 5 = .ok (.new 9, 3) := by decide +kernel
theorem dX4_init_8 : decode cX4_init 8 = .ok (.dup, 1) := by decide +kernel
theorem dX4_init_9 : decode cX4_init 9 = .ok (.bipush 96, 2) := by decide +kernel
theorem dX4_init_11 : decode cX4_init 11 = .ok (.sipush 400, 3) := by decide +kernel
theorem dX4_init_14 : decode cX4_init 14 = .ok (.invokespecial 13, 3) := by decide +kernel
theorem dX4_init_17 : decode cX4_init 17 = .ok (.putfield 16, 3) := by decide +kernel
theorem dX4_init_20 : decode cX4_init 20 = .ok (.aload_n 0, 1) := by decide +kernel
theorem dX4_init_21 : decode cX4_init 21 = .ok (.iconst (-1), 1) := by decide +kernel
theorem dX4_init_22 : decode cX4_init 22 = .ok (.putfield 20, 3) := by decide +kernel
theorem dX4_init_25 : decode cX4_init 25 = .ok (.aload_n 0, 1) := by decide +kernel
theorem dX4_init_26 : decode cX4_init 26 = .ok (.sipush 400, 3) := by decide +kernel
theorem dX4_init_29 : decode cX4_init 29 = .ok (.newarray .int, 2) := by decide +kernel
theorem dX4_init_31 : decode cX4_init 31 = .ok (.putfield 24, 3) := by decide +kernel
theorem dX4_init_34 : decode cX4_init 34 = .ok (.aload_n 0, 1) := by decide +kernel
theorem dX4_init_35 : decode cX4_init 35 = .ok (.sipush 401, 3) := by decide +kernel
theorem dX4_init_38 : decode cX4_init 38 = .ok (.newarray .int, 2) := by decide +kernel
theorem dX4_init_40 : decode cX4_init 40 = .ok (.putfield 28, 3) := by decide +kernel
theorem dX4_init_43 : decode cX4_init 43 = .ok (.aload_n 0, 1) := by decide +kernel
theorem dX4_init_44 : decode cX4_init 44 = .ok (.sipush 401, 3) := by decide +kernel
theorem dX4_init_47 : decode cX4_init 47 = .ok (.newarray .int, 2) := by decide +kernel
theorem dX4_init_49 : decode cX4_init 49 = .ok (.putfield 31, 3) := by decide +kernel
theorem dX4_init_52 : decode cX4_init 52 = .ok (.aload_n 0, 1) := by decide +kernel
theorem dX4_init_53 : decode cX4_init 53 = .ok (.sipush 401, 3) := by decide +kernel
theorem dX4_init_56 : decode cX4_init 56 = .ok (.newarray .int, 2) := by decide +kernel
theorem dX4_init_58 : decode cX4_init 58 = .ok (.putfield 34, 3) := by decide +kernel
theorem dX4_init_61 : decode cX4_init 61 = .ok (.return_, 1) := by decide +kernel
theorem dX4_hasRoom_0 : decode cX4_hasRoom 0 = .ok (.aload_n 0, 1) := by decide +kernel
theorem dX4_hasRoom_1 : decode cX4_hasRoom 1 = .ok (.getfield 37, 3) := by decide +kernel
theorem dX4_hasRoom_4 : decode cX4_hasRoom 4 = .ok (.iload_n 1, 1) := by decide +kernel
theorem dX4_hasRoom_5 : decode cX4_hasRoom 5 = .ok (.iadd, 1) := by decide +kernel
theorem dX4_hasRoom_6 : decode cX4_hasRoom 6 = .ok (.sipush 400, 3) := by decide +kernel
theorem dX4_hasRoom_9 : decode cX4_hasRoom 9 = .ok (.if_icmp .gt 7, 3) := by decide +kernel
theorem dX4_hasRoom_12 : decode cX4_hasRoom 12 = .ok (.iconst 1, 1) := by decide +kernel
theorem dX4_hasRoom_13 : decode cX4_hasRoom 13 = .ok (.goto 4, 3) := by decide +kernel
theorem dX4_hasRoom_16 : decode cX4_hasRoom 16 = .ok (.iconst 0, 1) := by decide +kernel
theorem dX4_hasRoom_17 : decode cX4_hasRoom 17 = .ok (.ireturn, 1) := by decide +kernel
theorem dX4_append_0 : decode cX4_append 0 = .ok (.bipush 24, 2) := by decide +kernel
theorem dX4_append_2 : decode cX4_append 2 = .ok (.istore_n 2, 1) := by decide +kernel
theorem dX4_append_3 : decode cX4_append 3 = .ok (.iload_n 2, 1) := by decide +kernel
theorem dX4_append_4 : decode cX4_append 4 = .ok (.ifCond .lt 45, 3) := by decide +kernel
theorem dX4_append_7 : decode cX4_append 7 = .ok (.aload_n 0, 1) := by decide +kernel
theorem dX4_append_8 : decode cX4_append 8 = .ok (.getfield 37, 3) := by decide +kernel
theorem dX4_append_11 : decode cX4_append 11 = .ok (.sipush 400, 3) := by decide +kernel
theorem dX4_append_14 : decode cX4_append 14 = .ok (.if_icmp .ge 35, 3) := by decide +kernel
theorem dX4_append_17 : decode cX4_append 17 = .ok (.aload_n 0, 1) := by decide +kernel
theorem dX4_append_18 : decode cX4_append 18 = .ok (.getfield 24, 3) := by decide +kernel
theorem dX4_append_21 : decode cX4_append 21 = .ok (.aload_n 0, 1) := by decide +kernel
theorem dX4_append_22 : decode cX4_append 22 = .ok (.getfield 37, 3) := by decide +kernel
theorem dX4_append_25 : decode cX4_append 25 = .ok (.iload_n 1, 1) := by decide +kernel
theorem dX4_append_26 : decode cX4_append 26 = .ok (.iload_n 2, 1) := by decide +kernel
theorem dX4_append_27 : decode cX4_append 27 = .ok (.ishr, 1) := by decide +kernel
theorem dX4_append_28 : decode cX4_append 28 = .ok (.sipush 255, 3) := by decide +kernel
theorem dX4_append_31 : decode cX4_append 31 = .ok (.iand, 1) := by decide +kernel
theorem dX4_append_32 : decode cX4_append 32 = .ok (.iastore, 1) := by decide +kernel
theorem dX4_append_33 : decode cX4_append 33 = .ok (.aload_n 0, 1) := by decide +kernel
theorem dX4_append_34 : decode cX4_append 34 = .ok (.dup, 1) := by decide +kernel
theorem dX4_append_35 : decode cX4_append 35 = .ok (.getfield 37, 3) := by decide +kernel
theorem dX4_append_38 : decode cX4_append 38 = .ok (.iconst 1, 1) := by decide +kernel
theorem dX4_append_39 : decode cX4_append 39 = .ok (.iadd, 1) := by decide +kernel
theorem dX4_append_40 : decode cX4_append 40 = .ok (.putfield 37, 3) := by decide +kernel
theorem dX4_append_43 : decode cX4_append 43 = .ok (.iinc 2 (-8), 3) := by decide +kernel
theorem dX4_append_46 : decode cX4_append 46 = .ok (.goto (-43), 3) := by decide +kernel
theorem dX4_append_49 : decode cX4_append 49 = .ok (.return_, 1) := by decide +kernel
theorem dX4_cutTokens_0 : decode cX4_cutTokens 0 = .ok (.iload_n 1, 1) := by decide +kernel
theorem dX4_cutTokens_1 : decode cX4_cutTokens 1 = .ok (.invokestatic 40, 3) := by decide +kernel
theorem dX4_cutTokens_4 : decode cX4_cutTokens 4 = .ok (.astore_n 2, 1) := by decide +kernel
theorem dX4_cutTokens_5 : decode cX4_cutTokens 5 = .ok (.aload_n 0, 1) := by decide +kernel
theorem dX4_cutTokens_6 : decode cX4_cutTokens 6 = .ok (.getfield 37, 3) := by decide +kernel
theorem dX4_cutTokens_9 : decode cX4_cutTokens 9 = .ok (.istore_n 3, 1) := by decide +kernel
theorem dX4_cutTokens_10 : decode cX4_cutTokens 10 = .ok (.aload_n 0, 1) := by decide +kernel
theorem dX4_cutTokens_11 : decode cX4_cutTokens 11 = .ok (.iconst 0, 1) := by decide +kernel
theorem dX4_cutTokens_12 : decode cX4_cutTokens 12 = .ok (.putfield 37, 3) := by decide +kernel
theorem dX4_cutTokens_15 : decode cX4_cutTokens 15 = .ok (.aload_n 0, 1) := by decide +kernel
theorem dX4_cutTokens_16 : decode cX4_cutTokens 16 = .ok (.iconst 0, 1) := by decide +kernel
theorem dX4_cutTokens_17 : decode cX4_cutTokens 17 = .ok (.putfield 44, 3) := by decide +kernel
theorem dX4_cutTokens_20 : decode cX4_cutTokens 20 = .ok (.aload_n 0, 1) := by decide +kernel
theorem dX4_cutTokens_21 : decode cX4_cutTokens 21 = .ok (.iconst (-1), 1) := by decide +kernel
theorem dX4_cutTokens_22 : decode cX4_cutTokens 22 = .ok (.putfield 20, 3) := by decide +kernel
theorem dX4_cutTokens_25 : decode cX4_cutTokens 25 = .ok (.aload_n 0, 1) := by decide +kernel
theorem dX4_cutTokens_26 : decode cX4_cutTokens 26 = .ok (.iconst 0, 1) := by decide +kernel
theorem dX4_cutTokens_27 : decode cX4_cutTokens 27 = .ok (.putfield 47, 3) := by decide +kernel
theorem dX4_cutTokens_30 : decode cX4_cutTokens 30 = .ok (.aload_n 0, 1) := by decide +kernel
theorem dX4_cutTokens_31 : decode cX4_cutTokens 31 = .ok (.iconst 0, 1) := by decide +kernel
theorem dX4_cutTokens_32 : decode cX4_cutTokens 32 = .ok (.putfield 50, 3) := by decide +kernel
theorem dX4_cutTokens_35 : decode cX4_cutTokens 35 = .ok (.iconst 0, 1) := by decide +kernel
theorem dX4_cutTokens_36 : decode cX4_cutTokens 36 = .ok (.istore 4, 2) := by decide +kernel
theorem dX4_cutTokens_38 : decode cX4_cutTokens 38 = .ok (.iconst 0, 1) := by decide +kernel
theorem dX4_cutTokens_39 : decode cX4_cutTokens 39 = .ok (.istore 5, 2) := by decide +kernel
theorem dX4_cutTokens_41 : decode cX4_cutTokens 41 = .ok (.iload 5, 2) := by decide +kernel
theorem dX4_cutTokens_43 : decode cX4_cutTokens 43 = .ok (.sipush 400, 3) := by decide +kernel
theorem dX4_cutTokens_46 : decode cX4_cutTokens 46 = .ok (.if_icmp .ge 56, 3) := by decide +kernel
theorem dX4_cutTokens_49 : decode cX4_cutTokens 49 = .ok (.iload 4, 2) := by decide +kernel
theorem dX4_cutTokens_51 : decode cX4_cutTokens 51 = .ok (.iload_n 3, 1) := by decide +kernel
theorem dX4_cutTokens_52 : decode cX4_cutTokens 52 = .ok (.if_icmp .ge 50, 3) := by decide +kernel
theorem dX4_cutTokens_55 : decode cX4_cutTokens 55 = .ok (.aload_n 0, 1) := by decide +kernel
theorem dX4_cutTokens_56 : decode cX4_cutTokens 56 = .ok (.getfield 24, 3) := by decide +kernel
theorem dX4_cutTokens_59 : decode cX4_cutTokens 59 = .ok (.iload 4, 2) := by decide +kernel
theorem dX4_cutTokens_61 : decode cX4_cutTokens 61 = .ok (.iaload, 1) := by decide +kernel
theorem dX4_cutTokens_62 : decode cX4_cutTokens 62 = .ok (.bipush 32, 2) := by decide +kernel
theorem dX4_cutTokens_64 : decode cX4_cutTokens 64 = .ok (.if_icmp .eq 15, 3) := by decide +kernel
theorem dX4_cutTokens_67 : decode cX4_cutTokens 67 = .ok (.aload_n 0, 1) := by decide +kernel
theorem dX4_cutTokens_68 : decode cX4_cutTokens 68 = .ok (.getfield 24, 3) := by decide +kernel
theorem dX4_cutTokens_71 : decode cX4_cutTokens 71 = .ok (.iload 4, 2) := by decide +kernel
theorem dX4_cutTokens_73 : decode cX4_cutTokens 73 = .ok (.iaload, 1) := by decide +kernel
theorem dX4_cutTokens_74 : decode cX4_cutTokens 74 = .ok (.bipush 10, 2) := by decide +kernel
theorem dX4_cutTokens_76 : decode cX4_cutTokens 76 = .ok (.if_icmp .ne 10, 3) := by decide +kernel
theorem dX4_cutTokens_79 : decode cX4_cutTokens 79 = .ok (.iload 4, 2) := by decide +kernel
theorem dX4_cutTokens_81 : decode cX4_cutTokens 81 = .ok (.iconst 1, 1) := by decide +kernel
theorem dX4_cutTokens_82 : decode cX4_cutTokens 82 = .ok (.iadd, 1) := by decide +kernel
theorem dX4_cutTokens_83 : decode cX4_cutTokens 83 = .ok (.goto 11, 3) := by decide +kernel
theorem dX4_cutTokens_86 : decode cX4_cutTokens 86 = .ok (.aload_n 0, 1) := by decide +kernel
theorem dX4_cutTokens_87 : decode cX4_cutTokens 87 = .ok (.aload_n 2, 1) := by decide +kernel
theorem dX4_cutTokens_88 : decode cX4_cutTokens 88 = .ok (.iload 4, 2) := by decide +kernel
theorem dX4_cutTokens_90 : decode cX4_cutTokens 90 = .ok (.iload_n 3, 1) := by decide +kernel
theorem dX4_cutTokens_91 : decode cX4_cutTokens 91 = .ok (.invokevirtual 53, 3) := by decide +kernel
theorem dX4_cutTokens_94 : decode cX4_cutTokens 94 = .ok (.istore 4, 2) := by decide +kernel
theorem dX4_cutTokens_96 : decode cX4_cutTokens 96 = .ok (.iinc 5 1, 3) := by decide +kernel
theorem dX4_cutTokens_99 : decode cX4_cutTokens 99 = .ok (.goto (-58), 3) := by decide +kernel
theorem dX4_cutTokens_102 : decode cX4_cutTokens 102 = .ok (.aload_n 0, 1) := by decide +kernel
theorem dX4_cutTokens_103 : decode cX4_cutTokens 103 = .ok (.iconst 0, 1) := by decide +kernel
theorem dX4_cutTokens_104 : decode cX4_cutTokens 104 = .ok (.iconst 0, 1) := by decide +kernel
theorem dX4_cutTokens_105 : decode cX4_cutTokens 105 = .ok (.iload_n 3, 1) := by decide +kernel
theorem dX4_cutTokens_106 : decode cX4_cutTokens 106 = .ok (.invokevirtual 57, 3) := by decide +kernel
theorem dX4_cutTokens_109 : decode cX4_cutTokens 109 = .ok (.return_, 1) := by decide +kernel
theorem dX4_wordsOf_0 : decode cX4_wordsOf 0 = .ok (.iload_n 0, 1) := by decide +kernel
theorem dX4_wordsOf_1 : decode cX4_wordsOf 1 = .ok (.tableswitch 36 0 2 #[27, 30, 33], 27) := by decide +kernel
theorem dX4_wordsOf_28 : decode cX4_wordsOf 28 = .ok (.ldc 61, 2) := by decide +kernel
theorem dX4_wordsOf_30 : decode cX4_wordsOf 30 = .ok (.areturn, 1) := by decide +kernel
theorem dX4_wordsOf_31 : decode cX4_wordsOf 31 = .ok (.ldc 63, 2) := by decide +kernel
theorem dX4_wordsOf_33 : decode cX4_wordsOf 33 = .ok (.areturn, 1) := by decide +kernel
theorem dX4_wordsOf_34 : decode cX4_wordsOf 34 = .ok (.ldc 65, 2) := by decide +kernel
theorem dX4_wordsOf_36 : decode cX4_wordsOf 36 = .ok (.areturn, 1) := by decide +kernel
theorem dX4_wordsOf_37 : decode cX4_wordsOf 37 = .ok (.ldc 67, 2) := by decide +kernel
theorem dX4_wordsOf_39 : decode cX4_wordsOf 39 = .ok (.areturn, 1) := by decide +kernel
theorem dX4_cutOne_0 : decode cX4_cutOne 0 = .ok (.iload_n 2, 1) := by decide +kernel
theorem dX4_cutOne_1 : decode cX4_cutOne 1 = .ok (.istore 4, 2) := by decide +kernel
theorem dX4_cutOne_3 : decode cX4_cutOne 3 = .ok (.aload_n 0, 1) := by decide +kernel
theorem dX4_cutOne_4 : decode cX4_cutOne 4 = .ok (.getfield 24, 3) := by decide +kernel
theorem dX4_cutOne_7 : decode cX4_cutOne 7 = .ok (.iload 4, 2) := by decide +kernel
theorem dX4_cutOne_9 : decode cX4_cutOne 9 = .ok (.iaload, 1) := by decide +kernel
theorem dX4_cutOne_10 : decode cX4_cutOne 10 = .ok (.invokestatic 69, 3) := by decide +kernel
theorem dX4_cutOne_13 : decode cX4_cutOne 13 = .ok (.ifCond .eq 59, 3) := by decide +kernel
theorem dX4_cutOne_16 : decode cX4_cutOne 16 = .ok (.iload 4, 2) := by decide +kernel
theorem dX4_cutOne_18 : decode cX4_cutOne 18 = .ok (.iload_n 3, 1) := by decide +kernel
theorem dX4_cutOne_19 : decode cX4_cutOne 19 = .ok (.if_icmp .ge 22, 3) := by decide +kernel
theorem dX4_cutOne_22 : decode cX4_cutOne 22 = .ok (.aload_n 0, 1) := by decide +kernel
theorem dX4_cutOne_23 : decode cX4_cutOne 23 = .ok (.getfield 24, 3) := by decide +kernel
theorem dX4_cutOne_26 : decode cX4_cutOne 26 = .ok (.iload 4, 2) := by decide +kernel
theorem dX4_cutOne_28 : decode cX4_cutOne 28 = .ok (.iaload, 1) := by decide +kernel
theorem dX4_cutOne_29 : decode cX4_cutOne 29 = .ok (.invokestatic 69, 3) := by decide +kernel
theorem dX4_cutOne_32 : decode cX4_cutOne 32 = .ok (.ifCond .eq 9, 3) := by decide +kernel
theorem dX4_cutOne_35 : decode cX4_cutOne 35 = .ok (.iinc 4 1, 3) := by decide +kernel
theorem dX4_cutOne_38 : decode cX4_cutOne 38 = .ok (.goto (-22), 3) := by decide +kernel
theorem dX4_cutOne_41 : decode cX4_cutOne 41 = .ok (.aload_n 0, 1) := by decide +kernel
theorem dX4_cutOne_42 : decode cX4_cutOne 42 = .ok (.aload_n 1, 1) := by decide +kernel
theorem dX4_cutOne_43 : decode cX4_cutOne 43 = .ok (.iload_n 2, 1) := by decide +kernel
theorem dX4_cutOne_44 : decode cX4_cutOne 44 = .ok (.iload 4, 2) := by decide +kernel
theorem dX4_cutOne_46 : decode cX4_cutOne 46 = .ok (.invokevirtual 73, 3) := by decide +kernel
theorem dX4_cutOne_49 : decode cX4_cutOne 49 = .ok (.istore 5, 2) := by decide +kernel
theorem dX4_cutOne_51 : decode cX4_cutOne 51 = .ok (.aload_n 0, 1) := by decide +kernel
theorem dX4_cutOne_52 : decode cX4_cutOne 52 = .ok (.iload 5, 2) := by decide +kernel
theorem dX4_cutOne_54 : decode cX4_cutOne 54 = .ok (.iconst (-1), 1) := by decide +kernel
theorem dX4_cutOne_55 : decode cX4_cutOne 55 = .ok (.if_icmp .ne 7, 3) := by decide +kernel
theorem dX4_cutOne_58 : decode cX4_cutOne 58 = .ok (.iconst 4, 1) := by decide +kernel
theorem dX4_cutOne_59 : decode cX4_cutOne 59 = .ok (.goto 4, 3) := by decide +kernel
theorem dX4_cutOne_62 : decode cX4_cutOne 62 = .ok (.iconst 1, 1) := by decide +kernel
theorem dX4_cutOne_63 : decode cX4_cutOne 63 = .ok (.iload 5, 2) := by decide +kernel
theorem dX4_cutOne_65 : decode cX4_cutOne 65 = .ok (.iload_n 2, 1) := by decide +kernel
theorem dX4_cutOne_66 : decode cX4_cutOne 66 = .ok (.invokevirtual 57, 3) := by decide +kernel
theorem dX4_cutOne_69 : decode cX4_cutOne 69 = .ok (.iload 4, 2) := by decide +kernel
theorem dX4_cutOne_71 : decode cX4_cutOne 71 = .ok (.ireturn, 1) := by decide +kernel
theorem dX4_cutOne_72 : decode cX4_cutOne 72 = .ok (.aload_n 0, 1) := by decide +kernel
theorem dX4_cutOne_73 : decode cX4_cutOne 73 = .ok (.getfield 24, 3) := by decide +kernel
theorem dX4_cutOne_76 : decode cX4_cutOne 76 = .ok (.iload 4, 2) := by decide +kernel
theorem dX4_cutOne_78 : decode cX4_cutOne 78 = .ok (.iaload, 1) := by decide +kernel
theorem dX4_cutOne_79 : decode cX4_cutOne 79 = .ok (.invokestatic 76, 3) := by decide +kernel
theorem dX4_cutOne_82 : decode cX4_cutOne 82 = .ok (.ifCond .eq 85, 3) := by decide +kernel
theorem dX4_cutOne_85 : decode cX4_cutOne 85 = .ok (.iconst 0, 1) := by decide +kernel
theorem dX4_cutOne_86 : decode cX4_cutOne 86 = .ok (.istore 5, 2) := by decide +kernel
theorem dX4_cutOne_88 : decode cX4_cutOne 88 = .ok (.iload 4, 2) := by decide +kernel
theorem dX4_cutOne_90 : decode cX4_cutOne 90 = .ok (.iload_n 3, 1) := by decide +kernel
theorem dX4_cutOne_91 : decode cX4_cutOne 91 = .ok (.if_icmp .ge 53, 3) := by decide +kernel
theorem dX4_cutOne_94 : decode cX4_cutOne 94 = .ok (.aload_n 0, 1) := by decide +kernel
theorem dX4_cutOne_95 : decode cX4_cutOne 95 = .ok (.getfield 24, 3) := by decide +kernel
theorem dX4_cutOne_98 : decode cX4_cutOne 98 = .ok (.iload 4, 2) := by decide +kernel
theorem dX4_cutOne_100 : decode cX4_cutOne 100 = .ok (.iaload, 1) := by decide +kernel
theorem dX4_cutOne_101 : decode cX4_cutOne 101 = .ok (.invokestatic 76, 3) := by decide +kernel
theorem dX4_cutOne_104 : decode cX4_cutOne 104 = .ok (.ifCond .eq 40, 3) := by decide +kernel
theorem dX4_cutOne_107 : decode cX4_cutOne 107 = .ok (.iload 4, 2) := by decide +kernel
theorem dX4_cutOne_109 : decode cX4_cutOne 109 = .ok (.iload_n 2, 1) := by decide +kernel
theorem dX4_cutOne_110 : decode cX4_cutOne 110 = .ok (.isub, 1) := by decide +kernel
theorem dX4_cutOne_111 : decode cX4_cutOne 111 = .ok (.iconst 4, 1) := by decide +kernel
theorem dX4_cutOne_112 : decode cX4_cutOne 112 = .ok (.if_icmp .ge 22, 3) := by decide +kernel
theorem dX4_cutOne_115 : decode cX4_cutOne 115 = .ok (.iload 5, 2) := by decide +kernel
theorem dX4_cutOne_117 : decode cX4_cutOne 117 = .ok (.bipush 10, 2) := by decide +kernel
theorem dX4_cutOne_119 : decode cX4_cutOne 119 = .ok (.imul, 1) := by decide +kernel
theorem dX4_cutOne_120 : decode cX4_cutOne 120 = .ok (.aload_n 0, 1) := by decide +kernel
theorem dX4_cutOne_121 : decode cX4_cutOne 121 = .ok (.getfield 24, 3) := by decide +kernel
theorem dX4_cutOne_124 : decode cX4_cutOne 124 = .ok (.iload 4, 2) := by decide +kernel
theorem dX4_cutOne_126 : decode cX4_cutOne 126 = .ok (.iaload, 1) := by decide +kernel
theorem dX4_cutOne_127 : decode cX4_cutOne 127 = .ok (.iadd, 1) := by decide +kernel
theorem dX4_cutOne_128 : decode cX4_cutOne 128 = .ok (.bipush 48, 2) := by decide +kernel
theorem dX4_cutOne_130 : decode cX4_cutOne 130 = .ok (.isub, 1) := by decide +kernel
theorem dX4_cutOne_131 : decode cX4_cutOne 131 = .ok (.goto 5, 3) := by decide +kernel
theorem dX4_cutOne_134 : decode cX4_cutOne 134 = .ok (.iload 5, 2) := by decide +kernel
theorem dX4_cutOne_136 : decode cX4_cutOne 136 = .ok (.istore 5, 2) := by decide +kernel
theorem dX4_cutOne_138 : decode cX4_cutOne 138 = .ok (.iinc 4 1, 3) := by decide +kernel
theorem dX4_cutOne_141 : decode cX4_cutOne 141 = .ok (.goto (-53), 3) := by decide +kernel
theorem dX4_cutOne_144 : decode cX4_cutOne 144 = .ok (.aload_n 0, 1) := by decide +kernel
theorem dX4_cutOne_145 : decode cX4_cutOne 145 = .ok (.iload 4, 2) := by decide +kernel
theorem dX4_cutOne_147 : decode cX4_cutOne 147 = .ok (.iload_n 2, 1) := by decide +kernel
theorem dX4_cutOne_148 : decode cX4_cutOne 148 = .ok (.isub, 1) := by decide +kernel
theorem dX4_cutOne_149 : decode cX4_cutOne 149 = .ok (.iconst 4, 1) := by decide +kernel
theorem dX4_cutOne_150 : decode cX4_cutOne 150 = .ok (.if_icmp .le 7, 3) := by decide +kernel
theorem dX4_cutOne_153 : decode cX4_cutOne 153 = .ok (.iconst 4, 1) := by decide +kernel
theorem dX4_cutOne_154 : decode cX4_cutOne 154 = .ok (.goto 4, 3) := by decide +kernel
theorem dX4_cutOne_157 : decode cX4_cutOne 157 = .ok (.iconst 2, 1) := by decide +kernel
theorem dX4_cutOne_158 : decode cX4_cutOne 158 = .ok (.iload 5, 2) := by decide +kernel
theorem dX4_cutOne_160 : decode cX4_cutOne 160 = .ok (.iload_n 2, 1) := by decide +kernel
theorem dX4_cutOne_161 : decode cX4_cutOne 161 = .ok (.invokevirtual 57, 3) := by decide +kernel
theorem dX4_cutOne_164 : decode cX4_cutOne 164 = .ok (.iload 4, 2) := by decide +kernel
theorem dX4_cutOne_166 : decode cX4_cutOne 166 = .ok (.ireturn, 1) := by decide +kernel
theorem dX4_cutOne_167 : decode cX4_cutOne 167 = .ok (.aload_n 0, 1) := by decide +kernel
theorem dX4_cutOne_168 : decode cX4_cutOne 168 = .ok (.iconst 3, 1) := by decide +kernel
theorem dX4_cutOne_169 : decode cX4_cutOne 169 = .ok (.aload_n 0, 1) := by decide +kernel
theorem dX4_cutOne_170 : decode cX4_cutOne 170 = .ok (.getfield 24, 3) := by decide +kernel
theorem dX4_cutOne_173 : decode cX4_cutOne 173 = .ok (.iload 4, 2) := by decide +kernel
theorem dX4_cutOne_175 : decode cX4_cutOne 175 = .ok (.iaload, 1) := by decide +kernel
theorem dX4_cutOne_176 : decode cX4_cutOne 176 = .ok (.iload_n 2, 1) := by decide +kernel
theorem dX4_cutOne_177 : decode cX4_cutOne 177 = .ok (.invokevirtual 57, 3) := by decide +kernel
theorem dX4_cutOne_180 : decode cX4_cutOne 180 = .ok (.iload 4, 2) := by decide +kernel
theorem dX4_cutOne_182 : decode cX4_cutOne 182 = .ok (.iconst 1, 1) := by decide +kernel
theorem dX4_cutOne_183 : decode cX4_cutOne 183 = .ok (.iadd, 1) := by decide +kernel
theorem dX4_cutOne_184 : decode cX4_cutOne 184 = .ok (.ireturn, 1) := by decide +kernel
theorem dX4_isLetter_0 : decode cX4_isLetter 0 = .ok (.iload_n 0, 1) := by decide +kernel
theorem dX4_isLetter_1 : decode cX4_isLetter 1 = .ok (.bipush 97, 2) := by decide +kernel
theorem dX4_isLetter_3 : decode cX4_isLetter 3 = .ok (.if_icmp .lt 9, 3) := by decide +kernel
theorem dX4_isLetter_6 : decode cX4_isLetter 6 = .ok (.iload_n 0, 1) := by decide +kernel
theorem dX4_isLetter_7 : decode cX4_isLetter 7 = .ok (.bipush 122, 2) := by decide +kernel
theorem dX4_isLetter_9 : decode cX4_isLetter 9 = .ok (.if_icmp .le 15, 3) := by decide +kernel
theorem dX4_isLetter_12 : decode cX4_isLetter 12 = .ok (.iload_n 0, 1) := by decide +kernel
theorem dX4_isLetter_13 : decode cX4_isLetter 13 = .ok (.bipush 65, 2) := by decide +kernel
theorem dX4_isLetter_15 : decode cX4_isLetter 15 = .ok (.if_icmp .lt 13, 3) := by decide +kernel
theorem dX4_isLetter_18 : decode cX4_isLetter 18 = .ok (.iload_n 0, 1) := by decide +kernel
theorem dX4_isLetter_19 : decode cX4_isLetter 19 = .ok (.bipush 90, 2) := by decide +kernel
theorem dX4_isLetter_21 : decode cX4_isLetter 21 = .ok (.if_icmp .gt 7, 3) := by decide +kernel
theorem dX4_isLetter_24 : decode cX4_isLetter 24 = .ok (.iconst 1, 1) := by decide +kernel
theorem dX4_isLetter_25 : decode cX4_isLetter 25 = .ok (.goto 4, 3) := by decide +kernel
theorem dX4_isLetter_28 : decode cX4_isLetter 28 = .ok (.iconst 0, 1) := by decide +kernel
theorem dX4_isLetter_29 : decode cX4_isLetter 29 = .ok (.ireturn, 1) := by decide +kernel
theorem dX4_isDigit_0 : decode cX4_isDigit 0 = .ok (.iload_n 0, 1) := by decide +kernel
theorem dX4_isDigit_1 : decode cX4_isDigit 1 = .ok (.bipush 48, 2) := by decide +kernel
theorem dX4_isDigit_3 : decode cX4_isDigit 3 = .ok (.if_icmp .lt 13, 3) := by decide +kernel
theorem dX4_isDigit_6 : decode cX4_isDigit 6 = .ok (.iload_n 0, 1) := by decide +kernel
theorem dX4_isDigit_7 : decode cX4_isDigit 7 = .ok (.bipush 57, 2) := by decide +kernel
theorem dX4_isDigit_9 : decode cX4_isDigit 9 = .ok (.if_icmp .gt 7, 3) := by decide +kernel
theorem dX4_isDigit_12 : decode cX4_isDigit 12 = .ok (.iconst 1, 1) := by decide +kernel
theorem dX4_isDigit_13 : decode cX4_isDigit 13 = .ok (.goto 4, 3) := by decide +kernel
theorem dX4_isDigit_16 : decode cX4_isDigit 16 = .ok (.iconst 0, 1) := by decide +kernel
theorem dX4_isDigit_17 : decode cX4_isDigit 17 = .ok (.ireturn, 1) := by decide +kernel
theorem dX4_findWord_0 : decode cX4_findWord 0 = .ok (.iconst 0, 1) := by decide +kernel
theorem dX4_findWord_1 : decode cX4_findWord 1 = .ok (.istore 4, 2) := by decide +kernel
theorem dX4_findWord_3 : decode cX4_findWord 3 = .ok (.iload_n 2, 1) := by decide +kernel
theorem dX4_findWord_4 : decode cX4_findWord 4 = .ok (.istore 5, 2) := by decide +kernel
theorem dX4_findWord_6 : decode cX4_findWord 6 = .ok (.iconst 1, 1) := by decide +kernel
theorem dX4_findWord_7 : decode cX4_findWord 7 = .ok (.istore 6, 2) := by decide +kernel
theorem dX4_findWord_9 : decode cX4_findWord 9 = .ok (.iconst 0, 1) := by decide +kernel
theorem dX4_findWord_10 : decode cX4_findWord 10 = .ok (.istore 7, 2) := by decide +kernel
theorem dX4_findWord_12 : decode cX4_findWord 12 = .ok (.iload 7, 2) := by decide +kernel
theorem dX4_findWord_14 : decode cX4_findWord 14 = .ok (.aload_n 1, 1) := by decide +kernel
theorem dX4_findWord_15 : decode cX4_findWord 15 = .ok (.invokevirtual 79, 3) := by decide +kernel
theorem dX4_findWord_18 : decode cX4_findWord 18 = .ok (.if_icmp .ge 83, 3) := by decide +kernel
theorem dX4_findWord_21 : decode cX4_findWord 21 = .ok (.aload_n 1, 1) := by decide +kernel
theorem dX4_findWord_22 : decode cX4_findWord 22 = .ok (.iload 7, 2) := by decide +kernel
theorem dX4_findWord_24 : decode cX4_findWord 24 = .ok (.invokevirtual 84, 3) := by decide +kernel
theorem dX4_findWord_27 : decode cX4_findWord 27 = .ok (.bipush 32, 2) := by decide +kernel
theorem dX4_findWord_29 : decode cX4_findWord 29 = .ok (.if_icmp .ne 29, 3) := by decide +kernel
theorem dX4_findWord_32 : decode cX4_findWord 32 = .ok (.iload 6, 2) := by decide +kernel
theorem dX4_findWord_34 : decode cX4_findWord 34 = .ok (.ifCond .eq 12, 3) := by decide +kernel
theorem dX4_findWord_37 : decode cX4_findWord 37 = .ok (.iload 5, 2) := by decide +kernel
theorem dX4_findWord_39 : decode cX4_findWord 39 = .ok (.iload_n 3, 1) := by decide +kernel
theorem dX4_findWord_40 : decode cX4_findWord 40 = .ok (.if_icmp .ne 6, 3) := by decide +kernel
theorem dX4_findWord_43 : decode cX4_findWord 43 = .ok (.iload 4, 2) := by decide +kernel
theorem dX4_findWord_45 : decode cX4_findWord 45 = .ok (.ireturn, 1) := by decide +kernel
theorem dX4_findWord_46 : decode cX4_findWord 46 = .ok (.iinc 4 1, 3) := by decide +kernel
theorem dX4_findWord_49 : decode cX4_findWord 49 = .ok (.iload_n 2, 1) := by decide +kernel
theorem dX4_findWord_50 : decode cX4_findWord 50 = .ok (.istore 5, 2) := by decide +kernel
theorem dX4_findWord_52 : decode cX4_findWord 52 = .ok (.iconst 1, 1) := by decide +kernel
theorem dX4_findWord_53 : decode cX4_findWord 53 = .ok (.istore 6, 2) := by decide +kernel
theorem dX4_findWord_55 : decode cX4_findWord 55 = .ok (.goto 40, 3) := by decide +kernel
theorem dX4_findWord_58 : decode cX4_findWord 58 = .ok (.iload 6, 2) := by decide +kernel
theorem dX4_findWord_60 : decode cX4_findWord 60 = .ok (.ifCond .eq 29, 3) := by decide +kernel
theorem dX4_findWord_63 : decode cX4_findWord 63 = .ok (.iload 5, 2) := by decide +kernel
theorem dX4_findWord_65 : decode cX4_findWord 65 = .ok (.iload_n 3, 1) := by decide +kernel
theorem dX4_findWord_66 : decode cX4_findWord 66 = .ok (.if_icmp .ge 23, 3) := by decide +kernel
theorem dX4_findWord_69 : decode cX4_findWord 69 = .ok (.aload_n 0, 1) := by decide +kernel
theorem dX4_findWord_70 : decode cX4_findWord 70 = .ok (.getfield 24, 3) := by decide +kernel
theorem dX4_findWord_73 : decode cX4_findWord 73 = .ok (.iload 5, 2) := by decide +kernel
theorem dX4_findWord_75 : decode cX4_findWord 75 = .ok (.iaload, 1) := by decide +kernel
theorem dX4_findWord_76 : decode cX4_findWord 76 = .ok (.aload_n 1, 1) := by decide +kernel
theorem dX4_findWord_77 : decode cX4_findWord 77 = .ok (.iload 7, 2) := by decide +kernel
theorem dX4_findWord_79 : decode cX4_findWord 79 = .ok (.invokevirtual 84, 3) := by decide +kernel
theorem dX4_findWord_82 : decode cX4_findWord 82 = .ok (.if_icmp .ne 7, 3) := by decide +kernel
theorem dX4_findWord_85 : decode cX4_findWord 85 = .ok (.iconst 1, 1) := by decide +kernel
theorem dX4_findWord_86 : decode cX4_findWord 86 = .ok (.goto 4, 3) := by decide +kernel
theorem dX4_findWord_89 : decode cX4_findWord 89 = .ok (.iconst 0, 1) := by decide +kernel
theorem dX4_findWord_90 : decode cX4_findWord 90 = .ok (.istore 6, 2) := by decide +kernel
theorem dX4_findWord_92 : decode cX4_findWord 92 = .ok (.iinc 5 1, 3) := by decide +kernel
theorem dX4_findWord_95 : decode cX4_findWord 95 = .ok (.iinc 7 1, 3) := by decide +kernel
theorem dX4_findWord_98 : decode cX4_findWord 98 = .ok (.goto (-86), 3) := by decide +kernel
theorem dX4_findWord_101 : decode cX4_findWord 101 = .ok (.iload 6, 2) := by decide +kernel
theorem dX4_findWord_103 : decode cX4_findWord 103 = .ok (.ifCond .eq 14, 3) := by decide +kernel
theorem dX4_findWord_106 : decode cX4_findWord 106 = .ok (.iload 5, 2) := by decide +kernel
theorem dX4_findWord_108 : decode cX4_findWord 108 = .ok (.iload_n 3, 1) := by decide +kernel
theorem dX4_findWord_109 : decode cX4_findWord 109 = .ok (.if_icmp .ne 8, 3) := by decide +kernel
theorem dX4_findWord_112 : decode cX4_findWord 112 = .ok (.iload 4, 2) := by decide +kernel
theorem dX4_findWord_114 : decode cX4_findWord 114 = .ok (.goto 4, 3) := by decide +kernel
theorem dX4_findWord_117 : decode cX4_findWord 117 = .ok (.iconst (-1), 1) := by decide +kernel
theorem dX4_findWord_118 : decode cX4_findWord 118 = .ok (.ireturn, 1) := by decide +kernel
theorem dX4_addToken_0 : decode cX4_addToken 0 = .ok (.aload_n 0, 1) := by decide +kernel
theorem dX4_addToken_1 : decode cX4_addToken 1 = .ok (.getfield 47, 3) := by decide +kernel
theorem dX4_addToken_4 : decode cX4_addToken 4 = .ok (.aload_n 0, 1) := by decide +kernel
theorem dX4_addToken_5 : decode cX4_addToken 5 = .ok (.getfield 28, 3) := by decide +kernel
theorem dX4_addToken_8 : decode cX4_addToken 8 = .ok (.arraylength, 1) := by decide +kernel
theorem dX4_addToken_9 : decode cX4_addToken 9 = .ok (.if_icmp .ge 43, 3) := by decide +kernel
theorem dX4_addToken_12 : decode cX4_addToken 12 = .ok (.aload_n 0, 1) := by decide +kernel
theorem dX4_addToken_13 : decode cX4_addToken 13 = .ok (.getfield 28, 3) := by decide +kernel
theorem dX4_addToken_16 : decode cX4_addToken 16 = .ok (.aload_n 0, 1) := by decide +kernel
theorem dX4_addToken_17 : decode cX4_addToken 17 = .ok (.getfield 47, 3) := by decide +kernel
theorem dX4_addToken_20 : decode cX4_addToken 20 = .ok (.iload_n 1, 1) := by decide +kernel
theorem dX4_addToken_21 : decode cX4_addToken 21 = .ok (.iastore, 1) := by decide +kernel
theorem dX4_addToken_22 : decode cX4_addToken 22 = .ok (.aload_n 0, 1) := by decide +kernel
theorem dX4_addToken_23 : decode cX4_addToken 23 = .ok (.getfield 31, 3) := by decide +kernel
theorem dX4_addToken_26 : decode cX4_addToken 26 = .ok (.aload_n 0, 1) := by decide +kernel
theorem dX4_addToken_27 : decode cX4_addToken 27 = .ok (.getfield 47, 3) := by decide +kernel
theorem dX4_addToken_30 : decode cX4_addToken 30 = .ok (.iload_n 2, 1) := by decide +kernel
theorem dX4_addToken_31 : decode cX4_addToken 31 = .ok (.iastore, 1) := by decide +kernel
theorem dX4_addToken_32 : decode cX4_addToken 32 = .ok (.aload_n 0, 1) := by decide +kernel
theorem dX4_addToken_33 : decode cX4_addToken 33 = .ok (.getfield 34, 3) := by decide +kernel
theorem dX4_addToken_36 : decode cX4_addToken 36 = .ok (.aload_n 0, 1) := by decide +kernel
theorem dX4_addToken_37 : decode cX4_addToken 37 = .ok (.getfield 47, 3) := by decide +kernel
theorem dX4_addToken_40 : decode cX4_addToken 40 = .ok (.iload_n 3, 1) := by decide +kernel
theorem dX4_addToken_41 : decode cX4_addToken 41 = .ok (.iastore, 1) := by decide +kernel
theorem dX4_addToken_42 : decode cX4_addToken 42 = .ok (.aload_n 0, 1) := by decide +kernel
theorem dX4_addToken_43 : decode cX4_addToken 43 = .ok (.dup, 1) := by decide +kernel
theorem dX4_addToken_44 : decode cX4_addToken 44 = .ok (.getfield 47, 3) := by decide +kernel
theorem dX4_addToken_47 : decode cX4_addToken 47 = .ok (.iconst 1, 1) := by decide +kernel
theorem dX4_addToken_48 : decode cX4_addToken 48 = .ok (.iadd, 1) := by decide +kernel
theorem dX4_addToken_49 : decode cX4_addToken 49 = .ok (.putfield 47, 3) := by decide +kernel
theorem dX4_addToken_52 : decode cX4_addToken 52 = .ok (.return_, 1) := by decide +kernel
theorem dX4_parse_0 : decode cX4_parse 0 = .ok (.aload_n 0, 1) := by decide +kernel
theorem dX4_parse_1 : decode cX4_parse 1 = .ok (.getfield 16, 3) := by decide +kernel
theorem dX4_parse_4 : decode cX4_parse 4 = .ok (.iload_n 1, 1) := by decide +kernel
theorem dX4_parse_5 : decode cX4_parse 5 = .ok (.invokestatic 88, 3) := by decide +kernel
theorem dX4_parse_8 : decode cX4_parse 8 = .ok (.invokevirtual 92, 3) := by decide +kernel
theorem dX4_parse_11 : decode cX4_parse 11 = .ok (.iload_n 1, 1) := by decide +kernel
theorem dX4_parse_12 : decode cX4_parse 12 = .ok (.ifCond .ne 7, 3) := by decide +kernel
theorem dX4_parse_15 : decode cX4_parse 15 = .ok (.iconst 4, 1) := by decide +kernel
theorem dX4_parse_16 : decode cX4_parse 16 = .ok (.goto 4, 3) := by decide +kernel
theorem dX4_parse_19 : decode cX4_parse 19 = .ok (.iconst 0, 1) := by decide +kernel
theorem dX4_parse_20 : decode cX4_parse 20 = .ok (.istore_n 2, 1) := by decide +kernel
theorem dX4_parse_21 : decode cX4_parse 21 = .ok (.iload_n 1, 1) := by decide +kernel
theorem dX4_parse_22 : decode cX4_parse 22 = .ok (.iconst 3, 1) := by decide +kernel
theorem dX4_parse_23 : decode cX4_parse 23 = .ok (.if_icmp .ne 8, 3) := by decide +kernel
theorem dX4_parse_26 : decode cX4_parse 26 = .ok (.bipush 8, 2) := by decide +kernel
theorem dX4_parse_28 : decode cX4_parse 28 = .ok (.goto 5, 3) := by decide +kernel
theorem dX4_parse_31 : decode cX4_parse 31 = .ok (.bipush 16, 2) := by decide +kernel
theorem dX4_parse_33 : decode cX4_parse 33 = .ok (.istore_n 3, 1) := by decide +kernel
theorem dX4_parse_34 : decode cX4_parse 34 = .ok (.iconst 0, 1) := by decide +kernel
theorem dX4_parse_35 : decode cX4_parse 35 = .ok (.istore 4, 2) := by decide +kernel
theorem dX4_parse_37 : decode cX4_parse 37 = .ok (.iload 4, 2) := by decide +kernel
theorem dX4_parse_39 : decode cX4_parse 39 = .ok (.sipush 400, 3) := by decide +kernel
theorem dX4_parse_42 : decode cX4_parse 42 = .ok (.if_icmp .gt 140, 3) := by decide +kernel
theorem dX4_parse_45 : decode cX4_parse 45 = .ok (.aload_n 0, 1) := by decide +kernel
theorem dX4_parse_46 : decode cX4_parse 46 = .ok (.getfield 28, 3) := by decide +kernel
theorem dX4_parse_49 : decode cX4_parse 49 = .ok (.aload_n 0, 1) := by decide +kernel
theorem dX4_parse_50 : decode cX4_parse 50 = .ok (.getfield 50, 3) := by decide +kernel
theorem dX4_parse_53 : decode cX4_parse 53 = .ok (.iaload, 1) := by decide +kernel
theorem dX4_parse_54 : decode cX4_parse 54 = .ok (.ifCond .eq 128, 3) := by decide +kernel
theorem dX4_parse_57 : decode cX4_parse 57 = .ok (.aload_n 0, 1) := by decide +kernel
theorem dX4_parse_58 : decode cX4_parse 58 = .ok (.getfield 28, 3) := by decide +kernel
theorem dX4_parse_61 : decode cX4_parse 61 = .ok (.aload_n 0, 1) := by decide +kernel
theorem dX4_parse_62 : decode cX4_parse 62 = .ok (.getfield 50, 3) := by decide +kernel
theorem dX4_parse_65 : decode cX4_parse 65 = .ok (.iaload, 1) := by decide +kernel
theorem dX4_parse_66 : decode cX4_parse 66 = .ok (.iconst 1, 1) := by decide +kernel
theorem dX4_parse_67 : decode cX4_parse 67 = .ok (.if_icmp .ne 16, 3) := by decide +kernel
theorem dX4_parse_70 : decode cX4_parse 70 = .ok (.aload_n 0, 1) := by decide +kernel
theorem dX4_parse_71 : decode cX4_parse 71 = .ok (.getfield 31, 3) := by decide +kernel
theorem dX4_parse_74 : decode cX4_parse 74 = .ok (.aload_n 0, 1) := by decide +kernel
theorem dX4_parse_75 : decode cX4_parse 75 = .ok (.getfield 50, 3) := by decide +kernel
theorem dX4_parse_78 : decode cX4_parse 78 = .ok (.iaload, 1) := by decide +kernel
theorem dX4_parse_79 : decode cX4_parse 79 = .ok (.iload_n 2, 1) := by decide +kernel
theorem dX4_parse_80 : decode cX4_parse 80 = .ok (.if_icmp .le 9, 3) := by decide +kernel
theorem dX4_parse_83 : decode cX4_parse 83 = .ok (.aload_n 0, 1) := by decide +kernel
theorem dX4_parse_84 : decode cX4_parse 84 = .ok (.iconst 1, 1) := by decide +kernel
theorem dX4_parse_85 : decode cX4_parse 85 = .ok (.invokevirtual 100, 3) := by decide +kernel
theorem dX4_parse_88 : decode cX4_parse 88 = .ok (.ireturn, 1) := by decide +kernel
theorem dX4_parse_89 : decode cX4_parse 89 = .ok (.aload_n 0, 1) := by decide +kernel
theorem dX4_parse_90 : decode cX4_parse 90 = .ok (.getfield 16, 3) := by decide +kernel
theorem dX4_parse_93 : decode cX4_parse 93 = .ok (.getfield 103, 3) := by decide +kernel
theorem dX4_parse_96 : decode cX4_parse 96 = .ok (.iload_n 3, 1) := by decide +kernel
theorem dX4_parse_97 : decode cX4_parse 97 = .ok (.if_icmp .lt 9, 3) := by decide +kernel
theorem dX4_parse_100 : decode cX4_parse 100 = .ok (.aload_n 0, 1) := by decide +kernel
theorem dX4_parse_101 : decode cX4_parse 101 = .ok (.iconst 3, 1) := by decide +kernel
theorem dX4_parse_102 : decode cX4_parse 102 = .ok (.invokevirtual 100, 3) := by decide +kernel
theorem dX4_parse_105 : decode cX4_parse 105 = .ok (.ireturn, 1) := by decide +kernel
theorem dX4_parse_106 : decode cX4_parse 106 = .ok (.iload_n 1, 1) := by decide +kernel
theorem dX4_parse_107 : decode cX4_parse 107 = .ok (.ifCond .ne 10, 3) := by decide +kernel
theorem dX4_parse_110 : decode cX4_parse 110 = .ok (.aload_n 0, 1) := by decide +kernel
theorem dX4_parse_111 : decode cX4_parse 111 = .ok (.invokevirtual 106, 3) := by decide +kernel
theorem dX4_parse_114 : decode cX4_parse 114 = .ok (.goto 31, 3) := by decide +kernel
theorem dX4_parse_117 : decode cX4_parse 117 = .ok (.iload_n 1, 1) := by decide +kernel
theorem dX4_parse_118 : decode cX4_parse 118 = .ok (.iconst 1, 1) := by decide +kernel
theorem dX4_parse_119 : decode cX4_parse 119 = .ok (.if_icmp .ne 10, 3) := by decide +kernel
theorem dX4_parse_122 : decode cX4_parse 122 = .ok (.aload_n 0, 1) := by decide +kernel
theorem dX4_parse_123 : decode cX4_parse 123 = .ok (.invokevirtual 110, 3) := by decide +kernel
theorem dX4_parse_126 : decode cX4_parse 126 = .ok (.goto 19, 3) := by decide +kernel
theorem dX4_parse_129 : decode cX4_parse 129 = .ok (.iload_n 1, 1) := by decide +kernel
theorem dX4_parse_130 : decode cX4_parse 130 = .ok (.iconst 2, 1) := by decide +kernel
theorem dX4_parse_131 : decode cX4_parse 131 = .ok (.if_icmp .ne 10, 3) := by decide +kernel
theorem dX4_parse_134 : decode cX4_parse 134 = .ok (.aload_n 0, 1) := by decide +kernel
theorem dX4_parse_135 : decode cX4_parse 135 = .ok (.invokevirtual 113, 3) := by decide +kernel
theorem dX4_parse_138 : decode cX4_parse 138 = .ok (.goto 7, 3) := by decide +kernel
theorem dX4_parse_141 : decode cX4_parse 141 = .ok (.aload_n 0, 1) := by decide +kernel
theorem dX4_parse_142 : decode cX4_parse 142 = .ok (.invokevirtual 116, 3) := by decide +kernel
theorem dX4_parse_145 : decode cX4_parse 145 = .ok (.istore 5, 2) := by decide +kernel
theorem dX4_parse_147 : decode cX4_parse 147 = .ok (.iload 5, 2) := by decide +kernel
theorem dX4_parse_149 : decode cX4_parse 149 = .ok (.ifCond .eq 12, 3) := by decide +kernel
theorem dX4_parse_152 : decode cX4_parse 152 = .ok (.aload_n 0, 1) := by decide +kernel
theorem dX4_parse_153 : decode cX4_parse 153 = .ok (.bipush 59, 2) := by decide +kernel
theorem dX4_parse_155 : decode cX4_parse 155 = .ok (.invokevirtual 119, 3) := by decide +kernel
theorem dX4_parse_158 : decode cX4_parse 158 = .ok (.ifCond .ne 5, 3) := by decide +kernel
theorem dX4_parse_161 : decode cX4_parse 161 = .ok (.iconst 0, 1) := by decide +kernel
theorem dX4_parse_162 : decode cX4_parse 162 = .ok (.ireturn, 1) := by decide +kernel
theorem dX4_parse_163 : decode cX4_parse 163 = .ok (.aload_n 0, 1) := by decide +kernel
theorem dX4_parse_164 : decode cX4_parse 164 = .ok (.getfield 16, 3) := by decide +kernel
theorem dX4_parse_167 : decode cX4_parse 167 = .ok (.dup, 1) := by decide +kernel
theorem dX4_parse_168 : decode cX4_parse 168 = .ok (.getfield 103, 3) := by decide +kernel
theorem dX4_parse_171 : decode cX4_parse 171 = .ok (.iconst 1, 1) := by decide +kernel
theorem dX4_parse_172 : decode cX4_parse 172 = .ok (.iadd, 1) := by decide +kernel
theorem dX4_parse_173 : decode cX4_parse 173 = .ok (.putfield 103, 3) := by decide +kernel
theorem dX4_parse_176 : decode cX4_parse 176 = .ok (.iinc 4 1, 3) := by decide +kernel
theorem dX4_parse_179 : decode cX4_parse 179 = .ok (.goto (-142), 3) := by decide +kernel
theorem dX4_parse_182 : decode cX4_parse 182 = .ok (.iconst 1, 1) := by decide +kernel
theorem dX4_parse_183 : decode cX4_parse 183 = .ok (.ireturn, 1) := by decide +kernel
theorem dX4_widthOf_0 : decode cX4_widthOf 0 = .ok (.iload_n 0, 1) := by decide +kernel
theorem dX4_widthOf_1 : decode cX4_widthOf 1 = .ok (.iconst 2, 1) := by decide +kernel
theorem dX4_widthOf_2 : decode cX4_widthOf 2 = .ok (.if_icmp .ne 6, 3) := by decide +kernel
theorem dX4_widthOf_5 : decode cX4_widthOf 5 = .ok (.bipush 6, 2) := by decide +kernel
theorem dX4_widthOf_7 : decode cX4_widthOf 7 = .ok (.ireturn, 1) := by decide +kernel
theorem dX4_widthOf_8 : decode cX4_widthOf 8 = .ok (.iload_n 0, 1) := by decide +kernel
theorem dX4_widthOf_9 : decode cX4_widthOf 9 = .ok (.iconst 3, 1) := by decide +kernel
theorem dX4_widthOf_10 : decode cX4_widthOf 10 = .ok (.if_icmp .ne 7, 3) := by decide +kernel
theorem dX4_widthOf_13 : decode cX4_widthOf 13 = .ok (.iconst 2, 1) := by decide +kernel
theorem dX4_widthOf_14 : decode cX4_widthOf 14 = .ok (.goto 4, 3) := by decide +kernel
theorem dX4_widthOf_17 : decode cX4_widthOf 17 = .ok (.iconst 4, 1) := by decide +kernel
theorem dX4_widthOf_18 : decode cX4_widthOf 18 = .ok (.ireturn, 1) := by decide +kernel
theorem dX4_parseLaw_0 : decode cX4_parseLaw 0 = .ok (.aload_n 0, 1) := by decide +kernel
theorem dX4_parseLaw_1 : decode cX4_parseLaw 1 = .ok (.getfield 16, 3) := by decide +kernel
theorem dX4_parseLaw_4 : decode cX4_parseLaw 4 = .ok (.aload_n 0, 1) := by decide +kernel
theorem dX4_parseLaw_5 : decode cX4_parseLaw 5 = .ok (.getfield 31, 3) := by decide +kernel
theorem dX4_parseLaw_8 : decode cX4_parseLaw 8 = .ok (.aload_n 0, 1) := by decide +kernel
theorem dX4_parseLaw_9 : decode cX4_parseLaw 9 = .ok (.getfield 50, 3) := by decide +kernel
theorem dX4_parseLaw_12 : decode cX4_parseLaw 12 = .ok (.iaload, 1) := by decide +kernel
theorem dX4_parseLaw_13 : decode cX4_parseLaw 13 = .ok (.invokevirtual 122, 3) := by decide +kernel
theorem dX4_parseLaw_16 : decode cX4_parseLaw 16 = .ok (.aload_n 0, 1) := by decide +kernel
theorem dX4_parseLaw_17 : decode cX4_parseLaw 17 = .ok (.invokevirtual 125, 3) := by decide +kernel
theorem dX4_parseLaw_20 : decode cX4_parseLaw 20 = .ok (.aload_n 0, 1) := by decide +kernel
theorem dX4_parseLaw_21 : decode cX4_parseLaw 21 = .ok (.getfield 16, 3) := by decide +kernel
theorem dX4_parseLaw_24 : decode cX4_parseLaw 24 = .ok (.aload_n 0, 1) := by decide +kernel
theorem dX4_parseLaw_25 : decode cX4_parseLaw 25 = .ok (.getfield 16, 3) := by decide +kernel
theorem dX4_parseLaw_28 : decode cX4_parseLaw 28 = .ok (.getfield 128, 3) := by decide +kernel
theorem dX4_parseLaw_31 : decode cX4_parseLaw 31 = .ok (.invokevirtual 122, 3) := by decide +kernel
theorem dX4_parseLaw_34 : decode cX4_parseLaw 34 = .ok (.aload_n 0, 1) := by decide +kernel
theorem dX4_parseLaw_35 : decode cX4_parseLaw 35 = .ok (.invokevirtual 131, 3) := by decide +kernel
theorem dX4_parseLaw_38 : decode cX4_parseLaw 38 = .ok (.ifCond .ne 5, 3) := by decide +kernel
theorem dX4_parseLaw_41 : decode cX4_parseLaw 41 = .ok (.iconst 0, 1) := by decide +kernel
theorem dX4_parseLaw_42 : decode cX4_parseLaw 42 = .ok (.ireturn, 1) := by decide +kernel
theorem dX4_parseLaw_43 : decode cX4_parseLaw 43 = .ok (.aload_n 0, 1) := by decide +kernel
theorem dX4_parseLaw_44 : decode cX4_parseLaw 44 = .ok (.getfield 16, 3) := by decide +kernel
theorem dX4_parseLaw_47 : decode cX4_parseLaw 47 = .ok (.aload_n 0, 1) := by decide +kernel
theorem dX4_parseLaw_48 : decode cX4_parseLaw 48 = .ok (.getfield 16, 3) := by decide +kernel
theorem dX4_parseLaw_51 : decode cX4_parseLaw 51 = .ok (.getfield 128, 3) := by decide +kernel
theorem dX4_parseLaw_54 : decode cX4_parseLaw 54 = .ok (.invokevirtual 122, 3) := by decide +kernel
theorem dX4_parseLaw_57 : decode cX4_parseLaw 57 = .ok (.aload_n 0, 1) := by decide +kernel
theorem dX4_parseLaw_58 : decode cX4_parseLaw 58 = .ok (.iconst 5, 1) := by decide +kernel
theorem dX4_parseLaw_59 : decode cX4_parseLaw 59 = .ok (.invokevirtual 134, 3) := by decide +kernel
theorem dX4_parseLaw_62 : decode cX4_parseLaw 62 = .ok (.ifCond .eq 17, 3) := by decide +kernel
theorem dX4_parseLaw_65 : decode cX4_parseLaw 65 = .ok (.aload_n 0, 1) := by decide +kernel
theorem dX4_parseLaw_66 : decode cX4_parseLaw 66 = .ok (.invokevirtual 125, 3) := by decide +kernel
theorem dX4_parseLaw_69 : decode cX4_parseLaw 69 = .ok (.aload_n 0, 1) := by decide +kernel
theorem dX4_parseLaw_70 : decode cX4_parseLaw 70 = .ok (.iconst 0, 1) := by decide +kernel
theorem dX4_parseLaw_71 : decode cX4_parseLaw 71 = .ok (.invokevirtual 137, 3) := by decide +kernel
theorem dX4_parseLaw_74 : decode cX4_parseLaw 74 = .ok (.ifCond .ne 5, 3) := by decide +kernel
theorem dX4_parseLaw_77 : decode cX4_parseLaw 77 = .ok (.iconst 0, 1) := by decide +kernel
theorem dX4_parseLaw_78 : decode cX4_parseLaw 78 = .ok (.ireturn, 1) := by decide +kernel
theorem dX4_parseLaw_79 : decode cX4_parseLaw 79 = .ok (.aload_n 0, 1) := by decide +kernel
theorem dX4_parseLaw_80 : decode cX4_parseLaw 80 = .ok (.getfield 16, 3) := by decide +kernel
theorem dX4_parseLaw_83 : decode cX4_parseLaw 83 = .ok (.aload_n 0, 1) := by decide +kernel
theorem dX4_parseLaw_84 : decode cX4_parseLaw 84 = .ok (.getfield 16, 3) := by decide +kernel
theorem dX4_parseLaw_87 : decode cX4_parseLaw 87 = .ok (.getfield 128, 3) := by decide +kernel
theorem dX4_parseLaw_90 : decode cX4_parseLaw 90 = .ok (.invokevirtual 122, 3) := by decide +kernel
theorem dX4_parseLaw_93 : decode cX4_parseLaw 93 = .ok (.iconst 1, 1) := by decide +kernel
theorem dX4_parseLaw_94 : decode cX4_parseLaw 94 = .ok (.ireturn, 1) := by decide +kernel
theorem dX4_parseHours_0 : decode cX4_parseHours 0 = .ok (.aload_n 0, 1) := by decide +kernel
theorem dX4_parseHours_1 : decode cX4_parseHours 1 = .ok (.invokevirtual 125, 3) := by decide +kernel
theorem dX4_parseHours_4 : decode cX4_parseHours 4 = .ok (.aload_n 0, 1) := by decide +kernel
theorem dX4_parseHours_5 : decode cX4_parseHours 5 = .ok (.iconst 0, 1) := by decide +kernel
theorem dX4_parseHours_6 : decode cX4_parseHours 6 = .ok (.iconst 1, 1) := by decide +kernel
theorem dX4_parseHours_7 : decode cX4_parseHours 7 = .ok (.invokevirtual 140, 3) := by decide +kernel
theorem dX4_parseHours_10 : decode cX4_parseHours 10 = .ok (.ifCond .eq 50, 3) := by decide +kernel
theorem dX4_parseHours_13 : decode cX4_parseHours 13 = .ok (.aload_n 0, 1) := by decide +kernel
theorem dX4_parseHours_14 : decode cX4_parseHours 14 = .ok (.iconst 1, 1) := by decide +kernel
theorem dX4_parseHours_15 : decode cX4_parseHours 15 = .ok (.invokevirtual 144, 3) := by decide +kernel
theorem dX4_parseHours_18 : decode cX4_parseHours 18 = .ok (.ifCond .eq 42, 3) := by decide +kernel
theorem dX4_parseHours_21 : decode cX4_parseHours 21 = .ok (.aload_n 0, 1) := by decide +kernel
theorem dX4_parseHours_22 : decode cX4_parseHours 22 = .ok (.iconst 0, 1) := by decide +kernel
theorem dX4_parseHours_23 : decode cX4_parseHours 23 = .ok (.bipush 23, 2) := by decide +kernel
theorem dX4_parseHours_25 : decode cX4_parseHours 25 = .ok (.invokevirtual 140, 3) := by decide +kernel
theorem dX4_parseHours_28 : decode cX4_parseHours 28 = .ok (.ifCond .eq 32, 3) := by decide +kernel
theorem dX4_parseHours_31 : decode cX4_parseHours 31 = .ok (.aload_n 0, 1) := by decide +kernel
theorem dX4_parseHours_32 : decode cX4_parseHours 32 = .ok (.iconst 2, 1) := by decide +kernel
theorem dX4_parseHours_33 : decode cX4_parseHours 33 = .ok (.invokevirtual 144, 3) := by decide +kernel
theorem dX4_parseHours_36 : decode cX4_parseHours 36 = .ok (.ifCond .eq 24, 3) := by decide +kernel
theorem dX4_parseHours_39 : decode cX4_parseHours 39 = .ok (.aload_n 0, 1) := by decide +kernel
theorem dX4_parseHours_40 : decode cX4_parseHours 40 = .ok (.iconst 1, 1) := by decide +kernel
theorem dX4_parseHours_41 : decode cX4_parseHours 41 = .ok (.bipush 24, 2) := by decide +kernel
theorem dX4_parseHours_43 : decode cX4_parseHours 43 = .ok (.invokevirtual 140, 3) := by decide +kernel
theorem dX4_parseHours_46 : decode cX4_parseHours 46 = .ok (.ifCond .eq 14, 3) := by decide +kernel
theorem dX4_parseHours_49 : decode cX4_parseHours 49 = .ok (.aload_n 0, 1) := by decide +kernel
theorem dX4_parseHours_50 : decode cX4_parseHours 50 = .ok (.invokevirtual 147, 3) := by decide +kernel
theorem dX4_parseHours_53 : decode cX4_parseHours 53 = .ok (.ifCond .eq 7, 3) := by decide +kernel
theorem dX4_parseHours_56 : decode cX4_parseHours 56 = .ok (.iconst 1, 1) := by decide +kernel
theorem dX4_parseHours_57 : decode cX4_parseHours 57 = .ok (.goto 4, 3) := by decide +kernel
theorem dX4_parseHours_60 : decode cX4_parseHours 60 = .ok (.iconst 0, 1) := by decide +kernel
theorem dX4_parseHours_61 : decode cX4_parseHours 61 = .ok (.ireturn, 1) := by decide +kernel
