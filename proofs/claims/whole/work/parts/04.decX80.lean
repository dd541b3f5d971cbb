theorem dX8_init_0 : decode cX8_init 0 = .ok (.aload_n 0, 1) := by decide +kernel
theorem dX8_init_1 : decode cX8_init 1 = .ok (.invokespecial 3, 3) := by decide +kernel
theorem dX8_init_4 : decode cX8_init 4 = .ok (.aload_n 0, 1) := by decide +kernel
theorem dX8_init_5 : decode cX8_init 5 = .ok (.new 9, 3) := by decide +kernel
theorem dX8_init_8 : decode cX8_init 8 = .ok (.dup, 1) := by decide +kernel
theorem dX8_init_9 : decode cX8_init 9 = .ok (.invokespecial 11, 3) := by decide +kernel
theorem dX8_init_12 : decode cX8_init 12 = .ok (.putfield 12, 3) := by decide +kernel
theorem dX8_init_15 : decode cX8_init 15 = .ok (.aload_n 0, 1) := by decide +kernel
theorem dX8_init_16 : decode cX8_init 16 = .ok (.new 9, 3) := by decide +kernel
theorem dX8_init_19 : decode cX8_init 19 = .ok (.dup, 1) := by decide +kernel
theorem dX8_init_20 : decode cX8_init 20 = .ok (.invokespecial 11, 3) := by decide +kernel
theorem dX8_init_23 : decode cX8_init 23 = .ok (.putfield 16, 3) := by decide +kernel
theorem dX8_init_26 : decode cX8_init 26 = .ok (.aload_n 0, 1) := by decide +kernel
theorem dX8_init_27 : decode cX8_init 27 = .ok (.new 19, 3) := by decide +kernel
theorem dX8_init_30 : decode cX8_init 30 = .ok (.dup, 1) := by decide +kernel
theorem dX8_init_31 : decode cX8_init 31 = .ok (.invokespecial 21, 3) := by decide +kernel
theorem dX8_init_34 : decode cX8_init 34 = .ok (.putfield 22, 3) := by decide +kernel
theorem dX8_init_37 : decode cX8_init 37 = .ok (.aload_n 0, 1) := by decide +kernel
theorem dX8_init_38 : decode cX8_init 38 = .ok (.new 26, 3) := by decide +kernel
theorem dX8_init_41 : decode cX8_init 41 = .ok (.dup, 1) := by decide +kernel
theorem dX8_init_42 : decode cX8_init 42 = .ok (.invokespecial 28, 3) := by decide +kernel
theorem dX8_init_45 : decode cX8_init 45 = .ok (.putfield 29, 3) := by decide +kernel
theorem dX8_init_48 : decode cX8_init 48 = .ok (.aload_n 0, 1) := by decide +kernel
theorem dX8_init_49 : decode cX8_init 49 = .ok (.new 33, 3) := by decide +kernel
theorem dX8_init_52 : decode cX8_init 52 = .ok (.dup, 1) := by decide +kernel
theorem dX8_init_53 : decode cX8_init 53 = .ok (.invokespecial 35, 3) := by decide +kernel
theorem dX8_init_56 : decode cX8_init 56 = .ok (.putfield 36, 3) := by decide +kernel
theorem dX8_init_59 : decode cX8_init 59 = .ok (.aload_n 0, 1) := by decide +kernel
theorem dX8_init_60 : decode cX8_init 60 = .ok (.new 40, 3) := by decide +kernel
theorem dX8_init_63 : decode cX8_init 63 = .ok (.dup, 1) := by decide +kernel
theorem dX8_init_64 : decode cX8_init 64 = .ok (.aload_n 0, 1) := by decide +kernel
theorem dX8_init_65 : decode cX8_init 65 = .ok (.getfield 12, 3) := by decide +kernel
theorem dX8_init_68 : decode cX8_init 68 = .ok (.aload_n 0, 1) := by decide +kernel
theorem dX8_init_69 : decode cX8_init 69 = .ok (.getfield 36, 3) := by decide +kernel
theorem dX8_init_72 : decode cX8_init 72 = .ok (.invokespecial 42, 3) := by decide +kernel
theorem dX8_init_75 : decode cX8_init 75 = .ok (.putfield 45, 3) := by decide +kernel
theorem dX8_init_78 : decode cX8_init 78 = .ok (.aload_n 0, 1) := by decide +kernel
theorem dX8_init_79 : decode cX8_init 79 = .ok (.new 49, 3) := by decide +kernel
theorem dX8_init_82 : decode cX8_init 82 = .ok (.dup, 1) := by decide +kernel
theorem dX8_init_83 : decode cX8_init 83 = .ok (.invokespecial 51, 3) := by decide +kernel
theorem dX8_init_86 : decode cX8_init 86 = .ok (.putfield 52, 3) := by decide +kernel
theorem dX8_init_89 : decode cX8_init 89 = .ok (.aload_n 0, 1) := by decide +kernel
theorem dX8_init_90 : decode cX8_init 90 = .ok (.new 56, 3) := by decide +kernel
theorem dX8_init_93 : decode cX8_init 93 = .ok (.dup, 1) := by decide +kernel
theorem dX8_init_94 : decode cX8_init 94 = .ok (.invokespecial 58, 3) := by decide +kernel
theorem dX8_init_97 : decode cX8_init 97 = .ok (.putfield 59, 3) := by decide +kernel
theorem dX8_init_100 : decode cX8_init 100 = .ok (.aload_n 0, 1) := by decide +kernel
theorem dX8_init_101 : decode cX8_init 101 = .ok (.bipush 61, 2) := by decide +kernel
theorem dX8_init_103 : decode cX8_init 103 = .ok (.newarray .int, 2) := by decide +kernel
theorem dX8_init_105 : decode cX8_init 105 = .ok (.putfield 63, 3) := by decide +kernel
theorem dX8_init_108 : decode cX8_init 108 = .ok (.aload_n 0, 1) := by decide +kernel
theorem dX8_init_109 : decode cX8_init 109 = .ok (.iconst 0, 1) := by decide +kernel
theorem dX8_init_110 : decode cX8_init 110 = .ok (.putfield 67, 3) := by decide +kernel
theorem dX8_init_113 : decode cX8_init 113 = .ok (.return_, 1) := by decide +kernel
theorem dX8_state_0 : decode cX8_state 0 = .ok (.aload_n 0, 1) := by decide +kernel
theorem dX8_state_1 : decode cX8_state 1 = .ok (.getfield 12, 3) := by decide +kernel
theorem dX8_state_4 : decode cX8_state 4 = .ok (.getfield 71, 3) := by decide +kernel
theorem dX8_state_7 : decode cX8_state 7 = .ok (.getfield 74, 3) := by decide +kernel
theorem dX8_state_10 : decode cX8_state 10 = .ok (.istore_n 2, 1) := by decide +kernel
theorem dX8_state_11 : decode cX8_state 11 = .ok (.aload_n 0, 1) := by decide +kernel
theorem dX8_state_12 : decode cX8_state 12 = .ok (.getfield 12, 3) := by decide +kernel
theorem dX8_state_15 : decode cX8_state 15 = .ok (.getfield 71, 3) := by decide +kernel
theorem dX8_state_18 : decode cX8_state 18 = .ok (.iload_n 1, 1) := by decide +kernel
theorem dX8_state_19 : decode cX8_state 19 = .ok (.putfield 74, 3) := by decide +kernel
theorem dX8_state_22 : decode cX8_state 22 = .ok (.aload_n 0, 1) := by decide +kernel
theorem dX8_state_23 : decode cX8_state 23 = .ok (.getfield 22, 3) := by decide +kernel
theorem dX8_state_26 : decode cX8_state 26 = .ok (.invokevirtual 78, 3) := by decide +kernel
theorem dX8_state_29 : decode cX8_state 29 = .ok (.iload_n 2, 1) := by decide +kernel
theorem dX8_state_30 : decode cX8_state 30 = .ok (.ireturn, 1) := by decide +kernel
theorem dX8_set_0 : decode cX8_set 0 = .ok (.iload_n 1, 1) := by decide +kernel
theorem dX8_set_1 : decode cX8_set 1 = .ok (.ifCond .ne 17, 3) := by decide +kernel
theorem dX8_set_4 : decode cX8_set 4 = .ok (.iload_n 3, 1) := by decide +kernel
theorem dX8_set_5 : decode cX8_set 5 = .ok (.iconst 0, 1) := by decide +kernel
theorem dX8_set_6 : decode cX8_set 6 = .ok (.sipush 9999, 3) := by decide +kernel
theorem dX8_set_9 : decode cX8_set 9 = .ok (.invokestatic 81, 3) := by decide +kernel
theorem dX8_set_12 : decode cX8_set 12 = .ok (.ifCond .ne 15, 3) := by decide +kernel
theorem dX8_set_15 : decode cX8_set 15 = .ok (.goto 10, 3) := by decide +kernel
theorem dX8_set_18 : decode cX8_set 18 = .ok (.iload_n 2, 1) := by decide +kernel
theorem dX8_set_19 : decode cX8_set 19 = .ok (.invokestatic 85, 3) := by decide +kernel
theorem dX8_set_22 : decode cX8_set 22 = .ok (.ifCond .ne 5, 3) := by decide +kernel
theorem dX8_set_25 : decode cX8_set 25 = .ok (.iconst 0, 1) := by decide +kernel
theorem dX8_set_26 : decode cX8_set 26 = .ok (.ireturn, 1) := by decide +kernel
theorem dX8_set_27 : decode cX8_set 27 = .ok (.aload_n 0, 1) := by decide +kernel
theorem dX8_set_28 : decode cX8_set 28 = .ok (.getfield 12, 3) := by decide +kernel
theorem dX8_set_31 : decode cX8_set 31 = .ok (.getfield 71, 3) := by decide +kernel
theorem dX8_set_34 : decode cX8_set 34 = .ok (.astore 4, 2) := by decide +kernel
theorem dX8_set_36 : decode cX8_set 36 = .ok (.iload_n 1, 1) := by decide +kernel
theorem dX8_set_37 : decode cX8_set 37 = .ok (.ifCond .ne 17, 3) := by decide +kernel
theorem dX8_set_40 : decode cX8_set 40 = .ok (.aload 4, 2) := by decide +kernel
theorem dX8_set_42 : decode cX8_set 42 = .ok (.iload_n 3, 1) := by decide +kernel
theorem dX8_set_43 : decode cX8_set 43 = .ok (.putfield 89, 3) := by decide +kernel
theorem dX8_set_46 : decode cX8_set 46 = .ok (.aload 4, 2) := by decide +kernel
theorem dX8_set_48 : decode cX8_set 48 = .ok (.invokevirtual 92, 3) := by decide +kernel
theorem dX8_set_51 : decode cX8_set 51 = .ok (.goto 83, 3) := by decide +kernel
theorem dX8_set_54 : decode cX8_set 54 = .ok (.iload_n 1, 1) := by decide +kernel
theorem dX8_set_55 : decode cX8_set 55 = .ok (.iconst 1, 1) := by decide +kernel
theorem dX8_set_56 : decode cX8_set 56 = .ok (.if_icmp .ne 24, 3) := by decide +kernel
theorem dX8_set_59 : decode cX8_set 59 = .ok (.iload_n 3, 1) := by decide +kernel
theorem dX8_set_60 : decode cX8_set 60 = .ok (.iconst 0, 1) := by decide +kernel
theorem dX8_set_61 : decode cX8_set 61 = .ok (.bipush 99, 2) := by decide +kernel
theorem dX8_set_63 : decode cX8_set 63 = .ok (.invokestatic 81, 3) := by decide +kernel
theorem dX8_set_66 : decode cX8_set 66 = .ok (.ifCond .eq 14, 3) := by decide +kernel
theorem dX8_set_69 : decode cX8_set 69 = .ok (.aload 4, 2) := by decide +kernel
theorem dX8_set_71 : decode cX8_set 71 = .ok (.getfield 95, 3) := by decide +kernel
theorem dX8_set_74 : decode cX8_set 74 = .ok (.iload_n 2, 1) := by decide +kernel
theorem dX8_set_75 : decode cX8_set 75 = .ok (.iload_n 3, 1) := by decide +kernel
theorem dX8_set_76 : decode cX8_set 76 = .ok (.iastore, 1) := by decide +kernel
theorem dX8_set_77 : decode cX8_set 77 = .ok (.goto 57, 3) := by decide +kernel
theorem dX8_set_80 : decode cX8_set 80 = .ok (.iload_n 1, 1) := by decide +kernel
theorem dX8_set_81 : decode cX8_set 81 = .ok (.iconst 2, 1) := by decide +kernel
theorem dX8_set_82 : decode cX8_set 82 = .ok (.if_icmp .ne 25, 3) := by decide +kernel
theorem dX8_set_85 : decode cX8_set 85 = .ok (.iload_n 3, 1) := by decide +kernel
theorem dX8_set_86 : decode cX8_set 86 = .ok (.iconst 0, 1) := by decide +kernel
theorem dX8_set_87 : decode cX8_set 87 = .ok (.sipush 9999, 3) := by decide +kernel
theorem dX8_set_90 : decode cX8_set 90 = .ok (.invokestatic 81, 3) := by decide +kernel
theorem dX8_set_93 : decode cX8_set 93 = .ok (.ifCond .eq 14, 3) := by decide +kernel
theorem dX8_set_96 : decode cX8_set 96 = .ok (.aload 4, 2) := by decide +kernel
theorem dX8_set_98 : decode cX8_set 98 = .ok (.getfield 98, 3) := by decide +kernel
theorem dX8_set_101 : decode cX8_set 101 = .ok (.iload_n 2, 1) := by decide +kernel
theorem dX8_set_102 : decode cX8_set 102 = .ok (.iload_n 3, 1) := by decide +kernel
theorem dX8_set_103 : decode cX8_set 103 = .ok (.iastore, 1) := by decide +kernel
theorem dX8_set_104 : decode cX8_set 104 = .ok (.goto 30, 3) := by decide +kernel
theorem dX8_set_107 : decode cX8_set 107 = .ok (.iload_n 1, 1) := by decide +kernel
theorem dX8_set_108 : decode cX8_set 108 = .ok (.iconst 3, 1) := by decide +kernel
theorem dX8_set_109 : decode cX8_set 109 = .ok (.if_icmp .ne 23, 3) := by decide +kernel
theorem dX8_set_112 : decode cX8_set 112 = .ok (.iload_n 3, 1) := by decide +kernel
theorem dX8_set_113 : decode cX8_set 113 = .ok (.iconst 0, 1) := by decide +kernel
theorem dX8_set_114 : decode cX8_set 114 = .ok (.iconst 1, 1) := by decide +kernel
theorem dX8_set_115 : decode cX8_set 115 = .ok (.invokestatic 81, 3) := by decide +kernel
theorem dX8_set_118 : decode cX8_set 118 = .ok (.ifCond .eq 14, 3) := by decide +kernel
theorem dX8_set_121 : decode cX8_set 121 = .ok (.aload 4, 2) := by decide +kernel
theorem dX8_set_123 : decode cX8_set 123 = .ok (.getfield 101, 3) := by decide +kernel
theorem dX8_set_126 : decode cX8_set 126 = .ok (.iload_n 2, 1) := by decide +kernel
theorem dX8_set_127 : decode cX8_set 127 = .ok (.iload_n 3, 1) := by decide +kernel
theorem dX8_set_128 : decode cX8_set 128 = .ok (.iastore, 1) := by decide +kernel
theorem dX8_set_129 : decode cX8_set 129 = .ok (.goto 5, 3) := by decide +kernel
theorem dX8_set_132 : decode cX8_set 132 = .ok (.iconst 0, 1) := by decide +kernel
theorem dX8_set_133 : decode cX8_set 133 = .ok (.ireturn, 1) := by decide +kernel
theorem dX8_set_134 : decode cX8_set 134 = .ok (.aload_n 0, 1) := by decide +kernel
theorem dX8_set_135 : decode cX8_set 135 = .ok (.getfield 22, 3) := by decide +kernel
theorem dX8_set_138 : decode cX8_set 138 = .ok (.invokevirtual 78, 3) := by decide +kernel
theorem dX8_set_141 : decode cX8_set 141 = .ok (.iconst 1, 1) := by decide +kernel
theorem dX8_set_142 : decode cX8_set 142 = .ok (.ireturn, 1) := by decide +kernel
theorem dX8_say_0 : decode cX8_say 0 = .ok (.iload_n 1, 1) := by decide +kernel
theorem dX8_say_1 : decode cX8_say 1 = .ok (.invokestatic 85, 3) := by decide +kernel
theorem dX8_say_4 : decode cX8_say 4 = .ok (.ifCond .eq 36, 3) := by decide +kernel
theorem dX8_say_7 : decode cX8_say 7 = .ok (.iload_n 2, 1) := by decide +kernel
theorem dX8_say_8 : decode cX8_say 8 = .ok (.iconst 1, 1) := by decide +kernel
theorem dX8_say_9 : decode cX8_say 9 = .ok (.bipush 99, 2) := by decide +kernel
theorem dX8_say_11 : decode cX8_say 11 = .ok (.invokestatic 81, 3) := by decide +kernel
theorem dX8_say_14 : decode cX8_say 14 = .ok (.ifCond .eq 26, 3) := by decide +kernel
theorem dX8_say_17 : decode cX8_say 17 = .ok (.iload_n 3, 1) := by decide +kernel
theorem dX8_say_18 : decode cX8_say 18 = .ok (.iconst 0, 1) := by decide +kernel
theorem dX8_say_19 : decode cX8_say 19 = .ok (.bipush 9, 2) := by decide +kernel
theorem dX8_say_21 : decode cX8_say 21 = .ok (.invokestatic 81, 3) := by decide +kernel
theorem dX8_say_24 : decode cX8_say 24 = .ok (.ifCond .eq 16, 3) := by decide +kernel
theorem dX8_say_27 : decode cX8_say 27 = .ok (.aload_n 0, 1) := by decide +kernel
theorem dX8_say_28 : decode cX8_say 28 = .ok (.getfield 12, 3) := by decide +kernel
theorem dX8_say_31 : decode cX8_say 31 = .ok (.getfield 71, 3) := by decide +kernel
theorem dX8_say_34 : decode cX8_say 34 = .ok (.invokevirtual 104, 3) := by decide +kernel
theorem dX8_say_37 : decode cX8_say 37 = .ok (.ifCond .eq 5, 3) := by decide +kernel
theorem dX8_say_40 : decode cX8_say 40 = .ok (.iconst (-1), 1) := by decide +kernel
theorem dX8_say_41 : decode cX8_say 41 = .ok (.ireturn, 1) := by decide +kernel
theorem dX8_say_42 : decode cX8_say 42 = .ok (.aload_n 0, 1) := by decide +kernel
theorem dX8_say_43 : decode cX8_say 43 = .ok (.getfield 22, 3) := by decide +kernel
theorem dX8_say_46 : decode cX8_say 46 = .ok (.aload_n 0, 1) := by decide +kernel
theorem dX8_say_47 : decode cX8_say 47 = .ok (.getfield 12, 3) := by decide +kernel
theorem dX8_say_50 : decode cX8_say 50 = .ok (.getfield 71, 3) := by decide +kernel
theorem dX8_say_53 : decode cX8_say 53 = .ok (.invokevirtual 108, 3) := by decide +kernel
theorem dX8_say_56 : decode cX8_say 56 = .ok (.aload_n 0, 1) := by decide +kernel
theorem dX8_say_57 : decode cX8_say 57 = .ok (.getfield 45, 3) := by decide +kernel
theorem dX8_say_60 : decode cX8_say 60 = .ok (.aload_n 0, 1) := by decide +kernel
theorem dX8_say_61 : decode cX8_say 61 = .ok (.getfield 12, 3) := by decide +kernel
theorem dX8_say_64 : decode cX8_say 64 = .ok (.getfield 71, 3) := by decide +kernel
theorem dX8_say_67 : decode cX8_say 67 = .ok (.iconst 0, 1) := by decide +kernel
theorem dX8_say_68 : decode cX8_say 68 = .ok (.invokevirtual 112, 3) := by decide +kernel
theorem dX8_say_71 : decode cX8_say 71 = .ok (.aload_n 0, 1) := by decide +kernel
theorem dX8_say_72 : decode cX8_say 72 = .ok (.getfield 45, 3) := by decide +kernel
theorem dX8_say_75 : decode cX8_say 75 = .ok (.iload_n 1, 1) := by decide +kernel
theorem dX8_say_76 : decode cX8_say 76 = .ok (.iload_n 2, 1) := by decide +kernel
theorem dX8_say_77 : decode cX8_say 77 = .ok (.iload_n 3, 1) := by decide +kernel
theorem dX8_say_78 : decode cX8_say 78 = .ok (.iload 4, 2) := by decide +kernel
theorem dX8_say_80 : decode cX8_say 80 = .ok (.ifCond .eq 7, 3) := by decide +kernel
theorem dX8_say_83 : decode cX8_say 83 = .ok (.iconst 1, 1) := by decide +kernel
theorem dX8_say_84 : decode cX8_say 84 = .ok (.goto 4, 3) := by decide +kernel
theorem dX8_say_87 : decode cX8_say 87 = .ok (.iconst 0, 1) := by decide +kernel
theorem dX8_say_88 : decode cX8_say 88 = .ok (.invokevirtual 116, 3) := by decide +kernel
theorem dX8_say_91 : decode cX8_say 91 = .ok (.ireturn, 1) := by decide +kernel
theorem dX8_takeBack_0 : decode cX8_takeBack 0 = .ok (.aload_n 0, 1) := by decide +kernel
theorem dX8_takeBack_1 : decode cX8_takeBack 1 = .ok (.getfield 12, 3) := by decide +kernel
theorem dX8_takeBack_4 : decode cX8_takeBack 4 = .ok (.getfield 71, 3) := by decide +kernel
theorem dX8_takeBack_7 : decode cX8_takeBack 7 = .ok (.iload_n 1, 1) := by decide +kernel
theorem dX8_takeBack_8 : decode cX8_takeBack 8 = .ok (.invokevirtual 120, 3) := by decide +kernel
theorem dX8_takeBack_11 : decode cX8_takeBack 11 = .ok (.ifCond .eq 17, 3) := by decide +kernel
theorem dX8_takeBack_14 : decode cX8_takeBack 14 = .ok (.aload_n 0, 1) := by decide +kernel
theorem dX8_takeBack_15 : decode cX8_takeBack 15 = .ok (.getfield 12, 3) := by decide +kernel
theorem dX8_takeBack_18 : decode cX8_takeBack 18 = .ok (.getfield 71, 3) := by decide +kernel
theorem dX8_takeBack_21 : decode cX8_takeBack 21 = .ok (.iload_n 1, 1) := by decide +kernel
theorem dX8_takeBack_22 : decode cX8_takeBack 22 = .ok (.invokevirtual 123, 3) := by decide +kernel
theorem dX8_takeBack_25 : decode cX8_takeBack 25 = .ok (.ifCond .ne 5, 3) := by decide +kernel
theorem dX8_takeBack_28 : decode cX8_takeBack 28 = .ok (.iconst 0, 1) := by decide +kernel
theorem dX8_takeBack_29 : decode cX8_takeBack 29 = .ok (.ireturn, 1) := by decide +kernel
theorem dX8_takeBack_30 : decode cX8_takeBack 30 = .ok (.aload_n 0, 1) := by decide +kernel
theorem dX8_takeBack_31 : decode cX8_takeBack 31 = .ok (.getfield 22, 3) := by decide +kernel
theorem dX8_takeBack_34 : decode cX8_takeBack 34 = .ok (.aload_n 0, 1) := by decide +kernel
theorem dX8_takeBack_35 : decode cX8_takeBack 35 = .ok (.getfield 12, 3) := by decide +kernel
theorem dX8_takeBack_38 : decode cX8_takeBack 38 = .ok (.getfield 71, 3) := by decide +kernel
theorem dX8_takeBack_41 : decode cX8_takeBack 41 = .ok (.invokevirtual 108, 3) := by decide +kernel
theorem dX8_takeBack_44 : decode cX8_takeBack 44 = .ok (.aload_n 0, 1) := by decide +kernel
theorem dX8_takeBack_45 : decode cX8_takeBack 45 = .ok (.getfield 45, 3) := by decide +kernel
theorem dX8_takeBack_48 : decode cX8_takeBack 48 = .ok (.aload_n 0, 1) := by decide +kernel
theorem dX8_takeBack_49 : decode cX8_takeBack 49 = .ok (.getfield 12, 3) := by decide +kernel
theorem dX8_takeBack_52 : decode cX8_takeBack 52 = .ok (.getfield 71, 3) := by decide +kernel
theorem dX8_takeBack_55 : decode cX8_takeBack 55 = .ok (.iconst 0, 1) := by decide +kernel
theorem dX8_takeBack_56 : decode cX8_takeBack 56 = .ok (.invokevirtual 112, 3) := by decide +kernel
theorem dX8_takeBack_59 : decode cX8_takeBack 59 = .ok (.aload_n 0, 1) := by decide +kernel
theorem dX8_takeBack_60 : decode cX8_takeBack 60 = .ok (.getfield 45, 3) := by decide +kernel
theorem dX8_takeBack_63 : decode cX8_takeBack 63 = .ok (.iload_n 1, 1) := by decide +kernel
theorem dX8_takeBack_64 : decode cX8_takeBack 64 = .ok (.invokevirtual 126, 3) := by decide +kernel
theorem dX8_takeBack_67 : decode cX8_takeBack 67 = .ok (.iconst 1, 1) := by decide +kernel
theorem dX8_takeBack_68 : decode cX8_takeBack 68 = .ok (.ireturn, 1) := by decide +kernel
theorem dX8_ring_0 : decode cX8_ring 0 = .ok (.aload_n 0, 1) := by decide +kernel
theorem dX8_ring_1 : decode cX8_ring 1 = .ok (.getfield 22, 3) := by decide +kernel
theorem dX8_ring_4 : decode cX8_ring 4 = .ok (.aload_n 0, 1) := by decide +kernel
theorem dX8_ring_5 : decode cX8_ring 5 = .ok (.getfield 12, 3) := by decide +kernel
theorem dX8_ring_8 : decode cX8_ring 8 = .ok (.getfield 71, 3) := by decide +kernel
theorem dX8_ring_11 : decode cX8_ring 11 = .ok (.invokevirtual 108, 3) := by decide +kernel
theorem dX8_ring_14 : decode cX8_ring 14 = .ok (.aload_n 0, 1) := by decide +kernel
theorem dX8_ring_15 : decode cX8_ring 15 = .ok (.getfield 45, 3) := by decide +kernel
theorem dX8_ring_18 : decode cX8_ring 18 = .ok (.aload_n 0, 1) := by decide +kernel
theorem dX8_ring_19 : decode cX8_ring 19 = .ok (.getfield 12, 3) := by decide +kernel
theorem dX8_ring_22 : decode cX8_ring 22 = .ok (.getfield 71, 3) := by decide +kernel
theorem dX8_ring_25 : decode cX8_ring 25 = .ok (.iconst 0, 1) := by decide +kernel
theorem dX8_ring_26 : decode cX8_ring 26 = .ok (.invokevirtual 112, 3) := by decide +kernel
theorem dX8_ring_29 : decode cX8_ring 29 = .ok (.aload_n 0, 1) := by decide +kernel
theorem dX8_ring_30 : decode cX8_ring 30 = .ok (.getfield 45, 3) := by decide +kernel
theorem dX8_ring_33 : decode cX8_ring 33 = .ok (.invokevirtual 130, 3) := by decide +kernel
theorem dX8_ring_36 : decode cX8_ring 36 = .ok (.aload_n 0, 1) := by decide +kernel
theorem dX8_ring_37 : decode cX8_ring 37 = .ok (.getfield 12, 3) := by decide +kernel
theorem dX8_ring_40 : decode cX8_ring 40 = .ok (.getfield 71, 3) := by decide +kernel
theorem dX8_ring_43 : decode cX8_ring 43 = .ok (.invokevirtual 133, 3) := by decide +kernel
theorem dX8_ring_46 : decode cX8_ring 46 = .ok (.ireturn, 1) := by decide +kernel
theorem dX8_minutes_0 : decode cX8_minutes 0 = .ok (.iload_n 1, 1) := by decide +kernel
theorem dX8_minutes_1 : decode cX8_minutes 1 = .ok (.iconst 1, 1) := by decide +kernel
theorem dX8_minutes_2 : decode cX8_minutes 2 = .ok (.sipush 300, 3) := by decide +kernel
theorem dX8_minutes_5 : decode cX8_minutes 5 = .ok (.invokestatic 81, 3) := by decide +kernel
theorem dX8_minutes_8 : decode cX8_minutes 8 = .ok (.ifCond .eq 20, 3) := by decide +kernel
theorem dX8_minutes_11 : decode cX8_minutes 11 = .ok (.aload_n 0, 1) := by decide +kernel
theorem dX8_minutes_12 : decode cX8_minutes 12 = .ok (.getfield 12, 3) := by decide +kernel
theorem dX8_minutes_15 : decode cX8_minutes 15 = .ok (.getfield 71, 3) := by decide +kernel
theorem dX8_minutes_18 : decode cX8_minutes 18 = .ok (.getfield 89, 3) := by decide +kernel
theorem dX8_minutes_21 : decode cX8_minutes 21 = .ok (.iload_n 1, 1) := by decide +kernel
theorem dX8_minutes_22 : decode cX8_minutes 22 = .ok (.iadd, 1) := by decide +kernel
theorem dX8_minutes_23 : decode cX8_minutes 23 = .ok (.ldc 137, 2) := by decide +kernel
theorem dX8_minutes_25 : decode cX8_minutes 25 = .ok (.if_icmp .le 5, 3) := by decide +kernel
theorem dX8_minutes_28 : decode cX8_minutes 28 = .ok (.iconst (-1), 1) := by decide +kernel
theorem dX8_minutes_29 : decode cX8_minutes 29 = .ok (.ireturn, 1) := by decide +kernel
theorem dX8_minutes_30 : decode cX8_minutes 30 = .ok (.aload_n 0, 1) := by decide +kernel
theorem dX8_minutes_31 : decode cX8_minutes 31 = .ok (.getfield 12, 3) := by decide +kernel
theorem dX8_minutes_34 : decode cX8_minutes 34 = .ok (.getfield 71, 3) := by decide +kernel
theorem dX8_minutes_37 : decode cX8_minutes 37 = .ok (.getfield 138, 3) := by decide +kernel
theorem dX8_minutes_40 : decode cX8_minutes 40 = .ok (.istore_n 2, 1) := by decide +kernel
theorem dX8_minutes_41 : decode cX8_minutes 41 = .ok (.aload_n 0, 1) := by decide +kernel
theorem dX8_minutes_42 : decode cX8_minutes 42 = .ok (.getfield 45, 3) := by decide +kernel
theorem dX8_minutes_45 : decode cX8_minutes 45 = .ok (.aload_n 0, 1) := by decide +kernel
theorem dX8_minutes_46 : decode cX8_minutes 46 = .ok (.getfield 12, 3) := by decide +kernel
theorem dX8_minutes_49 : decode cX8_minutes 49 = .ok (.getfield 71, 3) := by decide +kernel
theorem dX8_minutes_52 : decode cX8_minutes 52 = .ok (.iconst 0, 1) := by decide +kernel
theorem dX8_minutes_53 : decode cX8_minutes 53 = .ok (.invokevirtual 112, 3) := by decide +kernel
theorem dX8_minutes_56 : decode cX8_minutes 56 = .ok (.iload_n 1, 1) := by decide +kernel
theorem dX8_minutes_57 : decode cX8_minutes 57 = .ok (.bipush 6, 2) := by decide +kernel
theorem dX8_minutes_59 : decode cX8_minutes 59 = .ok (.invokestatic 141, 3) := by decide +kernel
theorem dX8_minutes_62 : decode cX8_minutes 62 = .ok (.istore_n 3, 1) := by decide +kernel
theorem dX8_minutes_63 : decode cX8_minutes 63 = .ok (.aload_n 0, 1) := by decide +kernel
theorem dX8_minutes_64 : decode cX8_minutes 64 = .ok (.getfield 45, 3) := by decide +kernel
theorem dX8_minutes_67 : decode cX8_minutes 67 = .ok (.iload_n 1, 1) := by decide +kernel
theorem dX8_minutes_68 : decode cX8_minutes 68 = .ok (.iload_n 3, 1) := by decide +kernel
theorem dX8_minutes_69 : decode cX8_minutes 69 = .ok (.isub, 1) := by decide +kernel
theorem dX8_minutes_70 : decode cX8_minutes 70 = .ok (.invokevirtual 147, 3) := by decide +kernel
theorem dX8_minutes_73 : decode cX8_minutes 73 = .ok (.iconst 0, 1) := by decide +kernel
theorem dX8_minutes_74 : decode cX8_minutes 74 = .ok (.istore 4, 2) := by decide +kernel
theorem dX8_minutes_76 : decode cX8_minutes 76 = .ok (.iload 4, 2) := by decide +kernel
theorem dX8_minutes_78 : decode cX8_minutes 78 = .ok (.iload_n 3, 1) := by decide +kernel
theorem dX8_minutes_79 : decode cX8_minutes 79 = .ok (.if_icmp .ge 30, 3) := by decide +kernel
theorem dX8_minutes_82 : decode cX8_minutes 82 = .ok (.aload_n 0, 1) := by decide +kernel
theorem dX8_minutes_83 : decode cX8_minutes 83 = .ok (.getfield 22, 3) := by decide +kernel
theorem dX8_minutes_86 : decode cX8_minutes 86 = .ok (.aload_n 0, 1) := by decide +kernel
theorem dX8_minutes_87 : decode cX8_minutes 87 = .ok (.getfield 12, 3) := by decide +kernel
theorem dX8_minutes_90 : decode cX8_minutes 90 = .ok (.getfield 71, 3) := by decide +kernel
theorem dX8_minutes_93 : decode cX8_minutes 93 = .ok (.invokevirtual 108, 3) := by decide +kernel
theorem dX8_minutes_96 : decode cX8_minutes 96 = .ok (.aload_n 0, 1) := by decide +kernel
theorem dX8_minutes_97 : decode cX8_minutes 97 = .ok (.getfield 45, 3) := by decide +kernel
theorem dX8_minutes_100 : decode cX8_minutes 100 = .ok (.invokevirtual 150, 3) := by decide +kernel
theorem dX8_minutes_103 : decode cX8_minutes 103 = .ok (.iinc 4 1, 3) := by decide +kernel
theorem dX8_minutes_106 : decode cX8_minutes 106 = .ok (.goto (-30), 3) := by decide +kernel
theorem dX8_minutes_109 : decode cX8_minutes 109 = .ok (.aload_n 0, 1) := by decide +kernel
theorem dX8_minutes_110 : decode cX8_minutes 110 = .ok (.getfield 12, 3) := by decide +kernel
theorem dX8_minutes_113 : decode cX8_minutes 113 = .ok (.getfield 71, 3) := by decide +kernel
theorem dX8_minutes_116 : decode cX8_minutes 116 = .ok (.getfield 138, 3) := by decide +kernel
theorem dX8_minutes_119 : decode cX8_minutes 119 = .ok (.iload_n 2, 1) := by decide +kernel
theorem dX8_minutes_120 : decode cX8_minutes 120 = .ok (.isub, 1) := by decide +kernel
theorem dX8_minutes_121 : decode cX8_minutes 121 = .ok (.ireturn, 1) := by decide +kernel
theorem dX8_feed_0 : decode cX8_feed 0 = .ok (.aload_n 0, 1) := by decide +kernel
theorem dX8_feed_1 : decode cX8_feed 1 = .ok (.getfield 29, 3) := by decide +kernel
theorem dX8_feed_4 : decode cX8_feed 4 = .ok (.bipush 20, 2) := by decide +kernel
theorem dX8_feed_6 : decode cX8_feed 6 = .ok (.invokevirtual 153, 3) := by decide +kernel
theorem dX8_feed_9 : decode cX8_feed 9 = .ok (.ifCond .ne 5, 3) := by decide +kernel
theorem dX8_feed_12 : decode cX8_feed 12 = .ok (.iconst (-1), 1) := by decide +kernel
theorem dX8_feed_13 : decode cX8_feed 13 = .ok (.ireturn, 1) := by decide +kernel
theorem dX8_feed_14 : decode cX8_feed 14 = .ok (.aload_n 0, 1) := by decide +kernel
theorem dX8_feed_15 : decode cX8_feed 15 = .ok (.getfield 29, 3) := by decide +kernel
theorem dX8_feed_18 : decode cX8_feed 18 = .ok (.iload_n 1, 1) := by decide +kernel
theorem dX8_feed_19 : decode cX8_feed 19 = .ok (.invokevirtual 156, 3) := by decide +kernel
theorem dX8_feed_22 : decode cX8_feed 22 = .ok (.aload_n 0, 1) := by decide +kernel
theorem dX8_feed_23 : decode cX8_feed 23 = .ok (.getfield 29, 3) := by decide +kernel
theorem dX8_feed_26 : decode cX8_feed 26 = .ok (.iload_n 2, 1) := by decide +kernel
theorem dX8_feed_27 : decode cX8_feed 27 = .ok (.invokevirtual 156, 3) := by decide +kernel
theorem dX8_feed_30 : decode cX8_feed 30 = .ok (.aload_n 0, 1) := by decide +kernel
theorem dX8_feed_31 : decode cX8_feed 31 = .ok (.getfield 29, 3) := by decide +kernel
theorem dX8_feed_34 : decode cX8_feed 34 = .ok (.iload_n 3, 1) := by decide +kernel
theorem dX8_feed_35 : decode cX8_feed 35 = .ok (.invokevirtual 156, 3) := by decide +kernel
theorem dX8_feed_38 : decode cX8_feed 38 = .ok (.aload_n 0, 1) := by decide +kernel
theorem dX8_feed_39 : decode cX8_feed 39 = .ok (.getfield 29, 3) := by decide +kernel
theorem dX8_feed_42 : decode cX8_feed 42 = .ok (.iload 4, 2) := by decide +kernel
theorem dX8_feed_44 : decode cX8_feed 44 = .ok (.invokevirtual 156, 3) := by decide +kernel
theorem dX8_feed_47 : decode cX8_feed 47 = .ok (.aload_n 0, 1) := by decide +kernel
theorem dX8_feed_48 : decode cX8_feed 48 = .ok (.getfield 29, 3) := by decide +kernel
theorem dX8_feed_51 : decode cX8_feed 51 = .ok (.iload 5, 2) := by decide +kernel
theorem dX8_feed_53 : decode cX8_feed 53 = .ok (.invokevirtual 156, 3) := by decide +kernel
theorem dX8_feed_56 : decode cX8_feed 56 = .ok (.aload_n 0, 1) := by decide +kernel
theorem dX8_feed_57 : decode cX8_feed 57 = .ok (.getfield 29, 3) := by decide +kernel
theorem dX8_feed_60 : decode cX8_feed 60 = .ok (.getfield 159, 3) := by decide +kernel
theorem dX8_feed_63 : decode cX8_feed 63 = .ok (.ireturn, 1) := by decide +kernel
theorem dX8_end_0 : decode cX8_end 0 = .ok (.iload_n 1, 1) := by decide +kernel
theorem dX8_end_1 : decode cX8_end 1 = .ok (.iconst 0, 1) := by decide +kernel
theorem dX8_end_2 : decode cX8_end 2 = .ok (.aload_n 0, 1) := by decide +kernel
theorem dX8_end_3 : decode cX8_end 3 = .ok (.getfield 29, 3) := by decide +kernel
theorem dX8_end_6 : decode cX8_end 6 = .ok (.getfield 159, 3) := by decide +kernel
theorem dX8_end_9 : decode cX8_end 9 = .ok (.invokestatic 81, 3) := by decide +kernel
theorem dX8_end_12 : decode cX8_end 12 = .ok (.ifCond .ne 5, 3) := by decide +kernel
theorem dX8_end_15 : decode cX8_end 15 = .ok (.iconst 0, 1) := by decide +kernel
theorem dX8_end_16 : decode cX8_end 16 = .ok (.ireturn, 1) := by decide +kernel
theorem dX8_end_17 : decode cX8_end 17 = .ok (.aload_n 0, 1) := by decide +kernel
theorem dX8_end_18 : decode cX8_end 18 = .ok (.getfield 29, 3) := by decide +kernel
theorem dX8_end_21 : decode cX8_end 21 = .ok (.iload_n 1, 1) := by decide +kernel
theorem dX8_end_22 : decode cX8_end 22 = .ok (.putfield 159, 3) := by decide +kernel
theorem dX8_end_25 : decode cX8_end 25 = .ok (.iconst 1, 1) := by decide +kernel
theorem dX8_end_26 : decode cX8_end 26 = .ok (.ireturn, 1) := by decide +kernel
theorem dX8_text_0 : decode cX8_text 0 = .ok (.aload_n 0, 1) := by decide +kernel
theorem dX8_text_1 : decode cX8_text 1 = .ok (.getfield 29, 3) := by decide +kernel
theorem dX8_text_4 : decode cX8_text 4 = .ok (.iload_n 1, 1) := by decide +kernel
theorem dX8_text_5 : decode cX8_text 5 = .ok (.invokevirtual 162, 3) := by decide +kernel
theorem dX8_text_8 : decode cX8_text 8 = .ok (.iload_n 1, 1) := by decide +kernel
theorem dX8_text_9 : decode cX8_text 9 = .ok (.iconst 0, 1) := by decide +kernel
theorem dX8_text_10 : decode cX8_text 10 = .ok (.iconst 3, 1) := by decide +kernel
theorem dX8_text_11 : decode cX8_text 11 = .ok (.invokestatic 81, 3) := by decide +kernel
theorem dX8_text_14 : decode cX8_text 14 = .ok (.ifCond .eq 14, 3) := by decide +kernel
theorem dX8_text_17 : decode cX8_text 17 = .ok (.aload_n 0, 1) := by decide +kernel
theorem dX8_text_18 : decode cX8_text 18 = .ok (.getfield 29, 3) := by decide +kernel
theorem dX8_text_21 : decode cX8_text 21 = .ok (.iload_n 1, 1) := by decide +kernel
theorem dX8_text_22 : decode cX8_text 22 = .ok (.invokevirtual 165, 3) := by decide +kernel
theorem dX8_text_25 : decode cX8_text 25 = .ok (.ifCond .ne 5, 3) := by decide +kernel
theorem dX8_text_28 : decode cX8_text 28 = .ok (.iconst (-1), 1) := by decide +kernel
theorem dX8_text_29 : decode cX8_text 29 = .ok (.ireturn, 1) := by decide +kernel
theorem dX8_text_30 : decode cX8_text 30 = .ok (.aload_n 0, 1) := by decide +kernel
theorem dX8_text_31 : decode cX8_text 31 = .ok (.getfield 12, 3) := by decide +kernel
theorem dX8_text_34 : decode cX8_text 34 = .ok (.getfield 168, 3) := by decide +kernel
theorem dX8_text_37 : decode cX8_text 37 = .ok (.iload_n 1, 1) := by decide +kernel
theorem dX8_text_38 : decode cX8_text 38 = .ok (.aaload, 1) := by decide +kernel
theorem dX8_text_39 : decode cX8_text 39 = .ok (.aload_n 0, 1) := by decide +kernel
theorem dX8_text_40 : decode cX8_text 40 = .ok (.getfield 29, 3) := by decide +kernel
theorem dX8_text_43 : decode cX8_text 43 = .ok (.getfield 172, 3) := by decide +kernel
theorem dX8_text_46 : decode cX8_text 46 = .ok (.invokevirtual 176, 3) := by decide +kernel
theorem dX8_text_49 : decode cX8_text 49 = .ok (.iload_n 1, 1) := by decide +kernel
theorem dX8_text_50 : decode cX8_text 50 = .ok (.iconst 1, 1) := by decide +kernel
theorem dX8_text_51 : decode cX8_text 51 = .ok (.if_icmp .eq 8, 3) := by decide +kernel
theorem dX8_text_54 : decode cX8_text 54 = .ok (.iload_n 1, 1) := by decide +kernel
theorem dX8_text_55 : decode cX8_text 55 = .ok (.iconst 2, 1) := by decide +kernel
theorem dX8_text_56 : decode cX8_text 56 = .ok (.if_icmp .ne 10, 3) := by decide +kernel
theorem dX8_text_59 : decode cX8_text 59 = .ok (.aload_n 0, 1) := by decide +kernel
theorem dX8_text_60 : decode cX8_text 60 = .ok (.getfield 22, 3) := by decide +kernel
theorem dX8_text_63 : decode cX8_text 63 = .ok (.invokevirtual 78, 3) := by decide +kernel
theorem dX8_text_66 : decode cX8_text 66 = .ok (.aload_n 0, 1) := by decide +kernel
theorem dX8_text_67 : decode cX8_text 67 = .ok (.getfield 12, 3) := by decide +kernel
theorem dX8_text_70 : decode cX8_text 70 = .ok (.getfield 168, 3) := by decide +kernel
theorem dX8_text_73 : decode cX8_text 73 = .ok (.iload_n 1, 1) := by decide +kernel
theorem dX8_text_74 : decode cX8_text 74 = .ok (.aaload, 1) := by decide +kernel
theorem dX8_text_75 : decode cX8_text 75 = .ok (.getfield 182, 3) := by decide +kernel
theorem dX8_text_78 : decode cX8_text 78 = .ok (.ireturn, 1) := by decide +kernel
theorem dX8_fault_0 : decode cX8_fault 0 = .ok (.iload_n 1, 1) := by decide +kernel
theorem dX8_fault_1 : decode cX8_fault 1 = .ok (.ifCond .ne 11, 3) := by decide +kernel
theorem dX8_fault_4 : decode cX8_fault 4 = .ok (.aload_n 0, 1) := by decide +kernel
theorem dX8_fault_5 : decode cX8_fault 5 = .ok (.getfield 29, 3) := by decide +kernel
theorem dX8_fault_8 : decode cX8_fault 8 = .ok (.getfield 185, 3) := by decide +kernel
theorem dX8_fault_11 : decode cX8_fault 11 = .ok (.ireturn, 1) := by decide +kernel
theorem dX8_fault_12 : decode cX8_fault 12 = .ok (.iload_n 1, 1) := by decide +kernel
theorem dX8_fault_13 : decode cX8_fault 13 = .ok (.iconst 1, 1) := by decide +kernel
theorem dX8_fault_14 : decode cX8_fault 14 = .ok (.if_icmp .ne 13, 3) := by decide +kernel
theorem dX8_fault_17 : decode cX8_fault 17 = .ok (.aload_n 0, 1) := by decide +kernel
theorem dX8_fault_18 : decode cX8_fault 18 = .ok (.getfield 29, 3) := by decide +kernel
theorem dX8_fault_21 : decode cX8_fault 21 = .ok (.getfield 188, 3) := by decide +kernel
theorem dX8_fault_24 : decode cX8_fault 24 = .ok (.goto 4, 3) := by decide +kernel
theorem dX8_fault_27 : decode cX8_fault 27 = .ok (.iconst (-1), 1) := by decide +kernel
theorem dX8_fault_28 : decode cX8_fault 28 = .ok (.ireturn, 1) := by decide +kernel
theorem dX8_of_0 : decode cX8_of 0 = .ok (.iload_n 1, 1) := by decide +kernel
theorem dX8_of_1 : decode cX8_of 1 = .ok (.invokestatic 85, 3) := by decide +kernel
theorem dX8_of_4 : decode cX8_of 4 = .ok (.ifCond .ne 5, 3) := by decide +kernel
theorem dX8_of_7 : decode cX8_of 7 = .ok (.iconst (-1), 1) := by decide +kernel
theorem dX8_of_8 : decode cX8_of 8 = .ok (.ireturn, 1) := by decide +kernel
theorem dX8_of_9 : decode cX8_of 9 = .ok (.iload_n 2, 1) := by decide +kernel
theorem dX8_of_10 : decode cX8_of 10 = .ok (.tableswitch 88 0 3 #[30, 43, 56, 69], 30) := by decide +kernel
theorem dX8_of_40 : decode cX8_of 40 = .ok (.aload_n 0, 1) := by decide +kernel
theorem dX8_of_41 : decode cX8_of 41 = .ok (.getfield 12, 3) := by decide +kernel
theorem dX8_of_44 : decode cX8_of 44 = .ok (.getfield 71, 3) := by decide +kernel
theorem dX8_of_47 : decode cX8_of 47 = .ok (.getfield 95, 3) := by decide +kernel
theorem dX8_of_50 : decode cX8_of 50 = .ok (.iload_n 1, 1) := by decide +kernel
theorem dX8_of_51 : decode cX8_of 51 = .ok (.iaload, 1) := by decide +kernel
theorem dX8_of_52 : decode cX8_of 52 = .ok (.ireturn, 1) := by decide +kernel
theorem dX8_of_53 : decode cX8_of 53 = .ok (.aload_n 0, 1) := by decide +kernel
theorem dX8_of_54 : decode cX8_of 54 = .ok (.getfield 12, 3) := by decide +kernel
theorem dX8_of_57 : decode cX8_of 57 = .ok (.getfield 71, 3) := by decide +kernel
theorem dX8_of_60 : decode cX8_of 60 = .ok (.getfield 98, 3) := by decide +kernel
theorem dX8_of_63 : decode cX8_of 63 = .ok (.iload_n 1, 1) := by decide +kernel
theorem dX8_of_64 : decode cX8_of 64 = .ok (.iaload, 1) := by decide +kernel
theorem dX8_of_65 : decode cX8_of 65 = .ok (.ireturn, 1) := by decide +kernel
theorem dX8_of_66 : decode cX8_of 66 = .ok (.aload_n 0, 1) := by decide +kernel
theorem dX8_of_67 : decode cX8_of 67 = .ok (.getfield 12, 3) := by decide +kernel
theorem dX8_of_70 : decode cX8_of 70 = .ok (.getfield 71, 3) := by decide +kernel
theorem dX8_of_73 : decode cX8_of 73 = .ok (.getfield 101, 3) := by decide +kernel
theorem dX8_of_76 : decode cX8_of 76 = .ok (.iload_n 1, 1) := by decide +kernel
theorem dX8_of_77 : decode cX8_of 77 = .ok (.iaload, 1) := by decide +kernel
theorem dX8_of_78 : decode cX8_of 78 = .ok (.ireturn, 1) := by decide +kernel
theorem dX8_of_79 : decode cX8_of 79 = .ok (.aload_n 0, 1) := by decide +kernel
theorem dX8_of_80 : decode cX8_of 80 = .ok (.getfield 12, 3) := by decide +kernel
theorem dX8_of_83 : decode cX8_of 83 = .ok (.iload_n 1, 1) := by decide +kernel
theorem dX8_of_84 : decode cX8_of 84 = .ok (.aload_n 0, 1) := by decide +kernel
theorem dX8_of_85 : decode cX8_of 85 = .ok (.getfield 12, 3) := by decide +kernel
theorem dX8_of_88 : decode cX8_of 88 = .ok (.getfield 71, 3) := by decide +kernel
theorem dX8_of_91 : decode cX8_of 91 = .ok (.invokevirtual 191, 3) := by decide +kernel
theorem dX8_of_94 : decode cX8_of 94 = .ok (.invokevirtual 194, 3) := by decide +kernel
theorem dX8_of_97 : decode cX8_of 97 = .ok (.ireturn, 1) := by decide +kernel
theorem dX8_of_98 : decode cX8_of 98 = .ok (.iconst (-1), 1) := by decide +kernel
theorem dX8_of_99 : decode cX8_of 99 = .ok (.ireturn, 1) := by decide +kernel
theorem dX8_message_0 : decode cX8_message 0 = .ok (.aload_n 0, 1) := by decide +kernel
theorem dX8_message_1 : decode cX8_message 1 = .ok (.getfield 12, 3) := by decide +kernel
theorem dX8_message_4 : decode cX8_message 4 = .ok (.getfield 71, 3) := by decide +kernel
theorem dX8_message_7 : decode cX8_message 7 = .ok (.iload_n 1, 1) := by decide +kernel
theorem dX8_message_8 : decode cX8_message 8 = .ok (.invokevirtual 120, 3) := by decide +kernel
theorem dX8_message_11 : decode cX8_message 11 = .ok (.ifCond .ne 6, 3) := by decide +kernel
theorem dX8_message_14 : decode cX8_message 14 = .ok (.bipush (-2), 2) := by decide +kernel
theorem dX8_message_16 : decode cX8_message 16 = .ok (.ireturn, 1) := by decide +kernel
theorem dX8_message_17 : decode cX8_message 17 = .ok (.iload_n 2, 1) := by decide +kernel
theorem dX8_message_18 : decode cX8_message 18 = .ok (.tableswitch 167 0 8 #[50, 63, 76, 89, 102, 115, 128, 141, 154], 50) := by decide +kernel
theorem dX8_message_68 : decode cX8_message 68 = .ok (.aload_n 0, 1) := by decide +kernel
theorem dX8_message_69 : decode cX8_message 69 = .ok (.getfield 12, 3) := by decide +kernel
theorem dX8_message_72 : decode cX8_message 72 = .ok (.getfield 71, 3) := by decide +kernel
theorem dX8_message_75 : decode cX8_message 75 = .ok (.getfield 197, 3) := by decide +kernel
theorem dX8_message_78 : decode cX8_message 78 = .ok (.iload_n 1, 1) := by decide +kernel
theorem dX8_message_79 : decode cX8_message 79 = .ok (.iaload, 1) := by decide +kernel
theorem dX8_message_80 : decode cX8_message 80 = .ok (.ireturn, 1) := by decide +kernel
theorem dX8_message_81 : decode cX8_message 81 = .ok (.aload_n 0, 1) := by decide +kernel
theorem dX8_message_82 : decode cX8_message 82 = .ok (.getfield 12, 3) := by decide +kernel
theorem dX8_message_85 : decode cX8_message 85 = .ok (.getfield 71, 3) := by decide +kernel
theorem dX8_message_88 : decode cX8_message 88 = .ok (.getfield 200, 3) := by decide +kernel
theorem dX8_message_91 : decode cX8_message 91 = .ok (.iload_n 1, 1) := by decide +kernel
theorem dX8_message_92 : decode cX8_message 92 = .ok (.iaload, 1) := by decide +kernel
theorem dX8_message_93 : decode cX8_message 93 = .ok (.ireturn, 1) := by decide +kernel
theorem dX8_message_94 : decode cX8_message 94 = .ok (.aload_n 0, 1) := by decide +kernel
theorem dX8_message_95 : decode cX8_message 95 = .ok (.getfield 12, 3) := by decide +kernel
theorem dX8_message_98 : decode cX8_message 98 = .ok (.getfield 71, 3) := by decide +kernel
theorem dX8_message_101 : decode cX8_message 101 = .ok (.getfield 203, 3) := by decide +kernel
theorem dX8_message_104 : decode cX8_message 104 = .ok (.iload_n 1, 1) := by decide +kernel
theorem dX8_message_105 : decode cX8_message 105 = .ok (.iaload, 1) := by decide +kernel
theorem dX8_message_106 : decode cX8_message 106 = .ok (.ireturn, 1) := by decide +kernel
theorem dX8_message_107 : decode cX8_message 107 = .ok (.aload_n 0, 1) := by decide +kernel
theorem dX8_message_108 : decode cX8_message 108 = .ok (.getfield 12, 3) := by decide +kernel
theorem dX8_message_111 : decode cX8_message 111 = .ok (.getfield 71, 3) := by decide +kernel
theorem dX8_message_114 : decode cX8_message 114 = .ok (.getfield 206, 3) := by decide +kernel
theorem dX8_message_117 : decode cX8_message 117 = .ok (.iload_n 1, 1) := by decide +kernel
theorem dX8_message_118 : decode cX8_message 118 = .ok (.iaload, 1) := by decide +kernel
theorem dX8_message_119 : decode cX8_message 119 = .ok (.ireturn, 1) := by decide +kernel
theorem dX8_message_120 : decode cX8_message 120 = .ok (.aload_n 0, 1) := by decide +kernel
theorem dX8_message_121 : decode cX8_message 121 = .ok (.getfield 12, 3) := by decide +kernel
theorem dX8_message_124 : decode cX8_message 124 = .ok (.getfield 71, 3) := by decide +kernel
theorem dX8_message_127 : decode cX8_message 127 = .ok (.getfield 209, 3) := by decide +kernel
theorem dX8_message_130 : decode cX8_message 130 = .ok (.iload_n 1, 1) := by decide +kernel
theorem dX8_message_131 : decode cX8_message 131 = .ok (.iaload, 1) := by decide +kernel
theorem dX8_message_132 : decode cX8_message 132 = .ok (.ireturn, 1) := by decide +kernel
theorem dX8_message_133 : decode cX8_message 133 = .ok (.aload_n 0, 1) := by decide +kernel
theorem dX8_message_134 : decode cX8_message 134 = .ok (.getfield 12, 3) := by decide +kernel
theorem dX8_message_137 : decode cX8_message 137 = .ok (.getfield 71, 3) := by decide +kernel
theorem dX8_message_140 : decode cX8_message 140 = .ok (.getfield 212, 3) := by decide +kernel
theorem dX8_message_143 : decode cX8_message 143 = .ok (.iload_n 1, 1) := by decide +kernel
theorem dX8_message_144 : decode cX8_message 144 = .ok (.iaload, 1) := by decide +kernel
theorem dX8_message_145 : decode cX8_message 145 = .ok (.ireturn, 1) := by decide +kernel
theorem dX8_message_146 : decode cX8_message 146 = .ok (.aload_n 0, 1) := by decide +kernel
theorem dX8_message_147 : decode cX8_message 147 = .ok (.getfield 12, 3) := by decide +kernel
theorem dX8_message_150 : decode cX8_message 150 = .ok (.getfield 71, 3) := by decide +kernel
theorem dX8_message_153 : decode cX8_message 153 = .ok (.getfield 215, 3) := by decide +kernel
theorem dX8_message_156 : decode cX8_message 156 = .ok (.iload_n 1, 1) := by decide +kernel
theorem dX8_message_157 : decode cX8_message 157 = .ok (.iaload, 1) := by decide +kernel
theorem dX8_message_158 : decode cX8_message 158 = .ok (.ireturn, 1) := by decide +kernel
theorem dX8_message_159 : decode cX8_message 159 = .ok (.aload_n 0, 1) := by decide +kernel
theorem dX8_message_160 : decode cX8_message 160 = .ok (.getfield 12, 3) := by decide +kernel
theorem dX8_message_163 : decode cX8_message 163 = .ok (.getfield 71, 3) := by decide +kernel
theorem dX8_message_166 : decode cX8_message 166 = .ok (.getfield 218, 3) := by decide +kernel
theorem dX8_message_169 : decode cX8_message 169 = .ok (.iload_n 1, 1) := by decide +kernel
theorem dX8_message_170 : decode cX8_message 170 = .ok (.iaload, 1) := by decide +kernel
theorem dX8_message_171 : decode cX8_message 171 = .ok (.ireturn, 1) := by decide +kernel
theorem dX8_message_172 : decode cX8_message 172 = .ok (.aload_n 0, 1) := by decide +kernel
theorem dX8_message_173 : decode cX8_message 173 = .ok (.getfield 12, 3) := by decide +kernel
theorem dX8_message_176 : decode cX8_message 176 = .ok (.getfield 71, 3) := by decide +kernel
theorem dX8_message_179 : decode cX8_message 179 = .ok (.getfield 221, 3) := by decide +kernel
theorem dX8_message_182 : decode cX8_message 182 = .ok (.iload_n 1, 1) := by decide +kernel
theorem dX8_message_183 : decode cX8_message 183 = .ok (.iaload, 1) := by decide +kernel
theorem dX8_message_184 : decode cX8_message 184 = .ok (.ireturn, 1) := by decide +kernel
theorem dX8_message_185 : decode cX8_message 185 = .ok (.bipush (-2), 2) := by decide +kernel
theorem dX8_message_187 : decode cX8_message 187 = .ok (.ireturn, 1) := by decide +kernel
theorem dX8_asks_0 : decode cX8_asks 0 = .ok (.aload_n 0, 1) := by decide +kernel
theorem dX8_asks_1 : decode cX8_asks 1 = .ok (.getfield 12, 3) := by decide +kernel
theorem dX8_asks_4 : decode cX8_asks 4 = .ok (.getfield 71, 3) := by decide +kernel
theorem dX8_asks_7 : decode cX8_asks 7 = .ok (.iload_n 1, 1) := by decide +kernel
theorem dX8_asks_8 : decode cX8_asks 8 = .ok (.invokevirtual 120, 3) := by decide +kernel
theorem dX8_asks_11 : decode cX8_asks 11 = .ok (.ifCond .eq 12, 3) := by decide +kernel
theorem dX8_asks_14 : decode cX8_asks 14 = .ok (.iload_n 2, 1) := by decide +kernel
theorem dX8_asks_15 : decode cX8_asks 15 = .ok (.iconst 0, 1) := by decide +kernel
theorem dX8_asks_16 : decode cX8_asks 16 = .ok (.iconst 4, 1) := by decide +kernel
theorem dX8_asks_17 : decode cX8_asks 17 = .ok (.invokestatic 81, 3) := by decide +kernel
theorem dX8_asks_20 : decode cX8_asks 20 = .ok (.ifCond .ne 6, 3) := by decide +kernel
theorem dX8_asks_23 : decode cX8_asks 23 = .ok (.bipush (-100), 2) := by decide +kernel
theorem dX8_asks_25 : decode cX8_asks 25 = .ok (.ireturn, 1) := by decide +kernel
theorem dX8_asks_26 : decode cX8_asks 26 = .ok (.aload_n 0, 1) := by decide +kernel
theorem dX8_asks_27 : decode cX8_asks 27 = .ok (.getfield 36, 3) := by decide +kernel
theorem dX8_asks_30 : decode cX8_asks 30 = .ok (.aload_n 0, 1) := by decide +kernel
theorem dX8_asks_31 : decode cX8_asks 31 = .ok (.getfield 12, 3) := by decide +kernel
theorem dX8_asks_34 : decode cX8_asks 34 = .ok (.aload_n 0, 1) := by decide +kernel
theorem dX8_asks_35 : decode cX8_asks 35 = .ok (.getfield 12, 3) := by decide +kernel
theorem dX8_asks_38 : decode cX8_asks 38 = .ok (.getfield 71, 3) := by decide +kernel
theorem dX8_asks_41 : decode cX8_asks 41 = .ok (.iconst 1, 1) := by decide +kernel
theorem dX8_asks_42 : decode cX8_asks 42 = .ok (.aload_n 0, 1) := by decide +kernel
theorem dX8_asks_43 : decode cX8_asks 43 = .ok (.getfield 12, 3) := by decide +kernel
theorem dX8_asks_46 : decode cX8_asks 46 = .ok (.getfield 71, 3) := by decide +kernel
theorem dX8_asks_49 : decode cX8_asks 49 = .ok (.getfield 197, 3) := by decide +kernel
theorem dX8_asks_52 : decode cX8_asks 52 = .ok (.iload_n 1, 1) := by decide +kernel
theorem dX8_asks_53 : decode cX8_asks 53 = .ok (.iaload, 1) := by decide +kernel
theorem dX8_asks_54 : decode cX8_asks 54 = .ok (.isub, 1) := by decide +kernel
theorem dX8_asks_55 : decode cX8_asks 55 = .ok (.invokevirtual 224, 3) := by decide +kernel
theorem dX8_asks_58 : decode cX8_asks 58 = .ok (.aload_n 0, 1) := by decide +kernel
theorem dX8_asks_59 : decode cX8_asks 59 = .ok (.getfield 36, 3) := by decide +kernel
theorem dX8_asks_62 : decode cX8_asks 62 = .ok (.aload_n 0, 1) := by decide +kernel
theorem dX8_asks_63 : decode cX8_asks 63 = .ok (.getfield 12, 3) := by decide +kernel
theorem dX8_asks_66 : decode cX8_asks 66 = .ok (.getfield 71, 3) := by decide +kernel
theorem dX8_asks_69 : decode cX8_asks 69 = .ok (.getfield 206, 3) := by decide +kernel
theorem dX8_asks_72 : decode cX8_asks 72 = .ok (.iload_n 1, 1) := by decide +kernel
theorem dX8_asks_73 : decode cX8_asks 73 = .ok (.iaload, 1) := by decide +kernel
theorem dX8_asks_74 : decode cX8_asks 74 = .ok (.aload_n 0, 1) := by decide +kernel
theorem dX8_asks_75 : decode cX8_asks 75 = .ok (.getfield 12, 3) := by decide +kernel
theorem dX8_asks_78 : decode cX8_asks 78 = .ok (.getfield 71, 3) := by decide +kernel
theorem dX8_asks_81 : decode cX8_asks 81 = .ok (.getfield 209, 3) := by decide +kernel
theorem dX8_asks_84 : decode cX8_asks 84 = .ok (.iload_n 1, 1) := by decide +kernel
theorem dX8_asks_85 : decode cX8_asks 85 = .ok (.iaload, 1) := by decide +kernel
theorem dX8_asks_86 : decode cX8_asks 86 = .ok (.aload_n 0, 1) := by decide +kernel
theorem dX8_asks_87 : decode cX8_asks 87 = .ok (.getfield 12, 3) := by decide +kernel
theorem dX8_asks_90 : decode cX8_asks 90 = .ok (.getfield 71, 3) := by decide +kernel
theorem dX8_asks_93 : decode cX8_asks 93 = .ok (.getfield 212, 3) := by decide +kernel
theorem dX8_asks_96 : decode cX8_asks 96 = .ok (.iload_n 1, 1) := by decide +kernel
theorem dX8_asks_97 : decode cX8_asks 97 = .ok (.iaload, 1) := by decide +kernel
theorem dX8_asks_98 : decode cX8_asks 98 = .ok (.invokevirtual 228, 3) := by decide +kernel
theorem dX8_asks_101 : decode cX8_asks 101 = .ok (.aload_n 0, 1) := by decide +kernel
theorem dX8_asks_102 : decode cX8_asks 102 = .ok (.getfield 36, 3) := by decide +kernel
theorem dX8_asks_105 : decode cX8_asks 105 = .ok (.aload_n 0, 1) := by decide +kernel
theorem dX8_asks_106 : decode cX8_asks 106 = .ok (.getfield 12, 3) := by decide +kernel
theorem dX8_asks_109 : decode cX8_asks 109 = .ok (.getfield 168, 3) := by decide +kernel
theorem dX8_asks_112 : decode cX8_asks 112 = .ok (.iconst 0, 1) := by decide +kernel
theorem dX8_asks_113 : decode cX8_asks 113 = .ok (.aaload, 1) := by decide +kernel
theorem dX8_asks_114 : decode cX8_asks 114 = .ok (.iload_n 2, 1) := by decide +kernel
theorem dX8_asks_115 : decode cX8_asks 115 = .ok (.invokevirtual 232, 3) := by decide +kernel
theorem dX8_asks_118 : decode cX8_asks 118 = .ok (.ireturn, 1) := by decide +kernel
theorem dX8_book_0 : decode cX8_book 0 = .ok (.iload_n 1, 1) := by decide +kernel
theorem dX8_book_1 : decode cX8_book 1 = .ok (.iconst 0, 1) := by decide +kernel
theorem dX8_book_2 : decode cX8_book 2 = .ok (.aload_n 0, 1) := by decide +kernel
theorem dX8_book_3 : decode cX8_book 3 = .ok (.getfield 12, 3) := by decide +kernel
theorem dX8_book_6 : decode cX8_book 6 = .ok (.getfield 71, 3) := by decide +kernel
theorem dX8_book_9 : decode cX8_book 9 = .ok (.getfield 236, 3) := by decide +kernel
theorem dX8_book_12 : decode cX8_book 12 = .ok (.iconst 1, 1) := by decide +kernel
theorem dX8_book_13 : decode cX8_book 13 = .ok (.isub, 1) := by decide +kernel
theorem dX8_book_14 : decode cX8_book 14 = .ok (.invokestatic 81, 3) := by decide +kernel
theorem dX8_book_17 : decode cX8_book 17 = .ok (.ifCond .eq 12, 3) := by decide +kernel
theorem dX8_book_20 : decode cX8_book 20 = .ok (.iload_n 2, 1) := by decide +kernel
theorem dX8_book_21 : decode cX8_book 21 = .ok (.iconst 0, 1) := by decide +kernel
theorem dX8_book_22 : decode cX8_book 22 = .ok (.iconst 3, 1) := by decide +kernel
theorem dX8_book_23 : decode cX8_book 23 = .ok (.invokestatic 81, 3) := by decide +kernel
theorem dX8_book_26 : decode cX8_book 26 = .ok (.ifCond .ne 6, 3) := by decide +kernel
theorem dX8_book_29 : decode cX8_book 29 = .ok (.bipush (-2), 2) := by decide +kernel
theorem dX8_book_31 : decode cX8_book 31 = .ok (.ireturn, 1) := by decide +kernel
theorem dX8_book_32 : decode cX8_book 32 = .ok (.aload_n 0, 1) := by decide +kernel
theorem dX8_book_33 : decode cX8_book 33 = .ok (.getfield 12, 3) := by decide +kernel
theorem dX8_book_36 : decode cX8_book 36 = .ok (.getfield 239, 3) := by decide +kernel
theorem dX8_book_39 : decode cX8_book 39 = .ok (.iload_n 1, 1) := by decide +kernel
theorem dX8_book_40 : decode cX8_book 40 = .ok (.iconst 4, 1) := by decide +kernel
theorem dX8_book_41 : decode cX8_book 41 = .ok (.imul, 1) := by decide +kernel
theorem dX8_book_42 : decode cX8_book 42 = .ok (.iload_n 2, 1) := by decide +kernel
theorem dX8_book_43 : decode cX8_book 43 = .ok (.iadd, 1) := by decide +kernel
theorem dX8_book_44 : decode cX8_book 44 = .ok (.iaload, 1) := by decide +kernel
theorem dX8_book_45 : decode cX8_book 45 = .ok (.ireturn, 1) := by decide +kernel
theorem dX8_goes_0 : decode cX8_goes 0 = .ok (.iload_n 1, 1) := by decide +kernel
theorem dX8_goes_1 : decode cX8_goes 1 = .ok (.iconst 1, 1) := by decide +kernel
theorem dX8_goes_2 : decode cX8_goes 2 = .ok (.sipush 999, 3) := by decide +kernel
theorem dX8_goes_5 : decode cX8_goes 5 = .ok (.invokestatic 81, 3) := by decide +kernel
theorem dX8_goes_8 : decode cX8_goes 8 = .ok (.ifCond .eq 12, 3) := by decide +kernel
theorem dX8_goes_11 : decode cX8_goes 11 = .ok (.iload_n 2, 1) := by decide +kernel
theorem dX8_goes_12 : decode cX8_goes 12 = .ok (.iconst 0, 1) := by decide +kernel
theorem dX8_goes_13 : decode cX8_goes 13 = .ok (.iconst 3, 1) := by decide +kernel
theorem dX8_goes_14 : decode cX8_goes 14 = .ok (.invokestatic 81, 3) := by decide +kernel
theorem dX8_goes_17 : decode cX8_goes 17 = .ok (.ifCond .ne 6, 3) := by decide +kernel
theorem dX8_goes_20 : decode cX8_goes 20 = .ok (.bipush (-2), 2) := by decide +kernel
theorem dX8_goes_22 : decode cX8_goes 22 = .ok (.ireturn, 1) := by decide +kernel
theorem dX8_goes_23 : decode cX8_goes 23 = .ok (.aload_n 0, 1) := by decide +kernel
theorem dX8_goes_24 : decode cX8_goes 24 = .ok (.invokevirtual 242, 3) := by decide +kernel
theorem dX8_goes_27 : decode cX8_goes 27 = .ok (.aload_n 0, 1) := by decide +kernel
theorem dX8_goes_28 : decode cX8_goes 28 = .ok (.getfield 45, 3) := by decide +kernel
theorem dX8_goes_31 : decode cX8_goes 31 = .ok (.iload_n 1, 1) := by decide +kernel
theorem dX8_goes_32 : decode cX8_goes 32 = .ok (.invokevirtual 147, 3) := by decide +kernel
theorem dX8_goes_35 : decode cX8_goes 35 = .ok (.iload_n 2, 1) := by decide +kernel
theorem dX8_goes_36 : decode cX8_goes 36 = .ok (.ifCond .ne 11, 3) := by decide +kernel
theorem dX8_goes_39 : decode cX8_goes 39 = .ok (.aload_n 0, 1) := by decide +kernel
theorem dX8_goes_40 : decode cX8_goes 40 = .ok (.getfield 52, 3) := by decide +kernel
theorem dX8_goes_43 : decode cX8_goes 43 = .ok (.getfield 138, 3) := by decide +kernel
theorem dX8_goes_46 : decode cX8_goes 46 = .ok (.ireturn, 1) := by decide +kernel
theorem dX8_goes_47 : decode cX8_goes 47 = .ok (.iload_n 2, 1) := by decide +kernel
theorem dX8_goes_48 : decode cX8_goes 48 = .ok (.iconst 1, 1) := by decide +kernel
theorem dX8_goes_49 : decode cX8_goes 49 = .ok (.if_icmp .ne 13, 3) := by decide +kernel
theorem dX8_goes_52 : decode cX8_goes 52 = .ok (.aload_n 0, 1) := by decide +kernel
theorem dX8_goes_53 : decode cX8_goes 53 = .ok (.getfield 52, 3) := by decide +kernel
theorem dX8_goes_56 : decode cX8_goes 56 = .ok (.invokevirtual 245, 3) := by decide +kernel
theorem dX8_goes_59 : decode cX8_goes 59 = .ok (.goto 14, 3) := by decide +kernel
theorem dX8_goes_62 : decode cX8_goes 62 = .ok (.aload_n 0, 1) := by decide +kernel
theorem dX8_goes_63 : decode cX8_goes 63 = .ok (.getfield 52, 3) := by decide +kernel
theorem dX8_goes_66 : decode cX8_goes 66 = .ok (.getfield 95, 3) := by decide +kernel
theorem dX8_goes_69 : decode cX8_goes 69 = .ok (.iload_n 2, 1) := by decide +kernel
theorem dX8_goes_70 : decode cX8_goes 70 = .ok (.iconst 2, 1) := by decide +kernel
theorem dX8_goes_71 : decode cX8_goes 71 = .ok (.isub, 1) := by decide +kernel
theorem dX8_goes_72 : decode cX8_goes 72 = .ok (.iaload, 1) := by decide +kernel
theorem dX8_goes_73 : decode cX8_goes 73 = .ok (.ireturn, 1) := by decide +kernel
theorem dX8_copies_0 : decode cX8_copies 0 = .ok (.iload_n 1, 1) := by decide +kernel
theorem dX8_copies_1 : decode cX8_copies 1 = .ok (.iconst 0, 1) := by decide +kernel
theorem dX8_copies_2 : decode cX8_copies 2 = .ok (.sipush 999, 3) := by decide +kernel
theorem dX8_copies_5 : decode cX8_copies 5 = .ok (.invokestatic 81, 3) := by decide +kernel
theorem dX8_copies_8 : decode cX8_copies 8 = .ok (.ifCond .eq 22, 3) := by decide +kernel
theorem dX8_copies_11 : decode cX8_copies 11 = .ok (.iload_n 2, 1) := by decide +kernel
theorem dX8_copies_12 : decode cX8_copies 12 = .ok (.iconst 1, 1) := by decide +kernel
theorem dX8_copies_13 : decode cX8_copies 13 = .ok (.bipush 99, 2) := by decide +kernel
theorem dX8_copies_15 : decode cX8_copies 15 = .ok (.invokestatic 81, 3) := by decide +kernel
theorem dX8_copies_18 : decode cX8_copies 18 = .ok (.ifCond .eq 12, 3) := by decide +kernel
theorem dX8_copies_21 : decode cX8_copies 21 = .ok (.iload_n 3, 1) := by decide +kernel
theorem dX8_copies_22 : decode cX8_copies 22 = .ok (.iconst 0, 1) := by decide +kernel
theorem dX8_copies_23 : decode cX8_copies 23 = .ok (.iconst 2, 1) := by decide +kernel
theorem dX8_copies_24 : decode cX8_copies 24 = .ok (.invokestatic 81, 3) := by decide +kernel
theorem dX8_copies_27 : decode cX8_copies 27 = .ok (.ifCond .ne 5, 3) := by decide +kernel
theorem dX8_copies_30 : decode cX8_copies 30 = .ok (.iconst (-1), 1) := by decide +kernel
theorem dX8_copies_31 : decode cX8_copies 31 = .ok (.ireturn, 1) := by decide +kernel
theorem dX8_copies_32 : decode cX8_copies 32 = .ok (.iconst 0, 1) := by decide +kernel
theorem dX8_copies_33 : decode cX8_copies 33 = .ok (.istore 4, 2) := by decide +kernel
theorem dX8_copies_35 : decode cX8_copies 35 = .ok (.iload_n 1, 1) := by decide +kernel
theorem dX8_copies_36 : decode cX8_copies 36 = .ok (.istore 5, 2) := by decide +kernel
theorem dX8_copies_38 : decode cX8_copies 38 = .ok (.iconst 1, 1) := by decide +kernel
theorem dX8_copies_39 : decode cX8_copies 39 = .ok (.istore 6, 2) := by decide +kernel
theorem dX8_copies_41 : decode cX8_copies 41 = .ok (.iload 6, 2) := by decide +kernel
theorem dX8_copies_43 : decode cX8_copies 43 = .ok (.bipush 60, 2) := by decide +kernel
theorem dX8_copies_45 : decode cX8_copies 45 = .ok (.if_icmp .gt 91, 3) := by decide +kernel
theorem dX8_copies_48 : decode cX8_copies 48 = .ok (.aload_n 0, 1) := by decide +kernel
theorem dX8_copies_49 : decode cX8_copies 49 = .ok (.getfield 36, 3) := by decide +kernel
theorem dX8_copies_52 : decode cX8_copies 52 = .ok (.aload_n 0, 1) := by decide +kernel
theorem dX8_copies_53 : decode cX8_copies 53 = .ok (.getfield 12, 3) := by decide +kernel
theorem dX8_copies_56 : decode cX8_copies 56 = .ok (.aload_n 0, 1) := by decide +kernel
theorem dX8_copies_57 : decode cX8_copies 57 = .ok (.getfield 12, 3) := by decide +kernel
theorem dX8_copies_60 : decode cX8_copies 60 = .ok (.getfield 71, 3) := by decide +kernel
theorem dX8_copies_63 : decode cX8_copies 63 = .ok (.iload 6, 2) := by decide +kernel
theorem dX8_copies_65 : decode cX8_copies 65 = .ok (.iconst 1, 1) := by decide +kernel
theorem dX8_copies_66 : decode cX8_copies 66 = .ok (.isub, 1) := by decide +kernel
theorem dX8_copies_67 : decode cX8_copies 67 = .ok (.iconst 2, 1) := by decide +kernel
theorem dX8_copies_68 : decode cX8_copies 68 = .ok (.irem, 1) := by decide +kernel
theorem dX8_copies_69 : decode cX8_copies 69 = .ok (.invokevirtual 224, 3) := by decide +kernel
theorem dX8_copies_72 : decode cX8_copies 72 = .ok (.aload_n 0, 1) := by decide +kernel
theorem dX8_copies_73 : decode cX8_copies 73 = .ok (.getfield 36, 3) := by decide +kernel
theorem dX8_copies_76 : decode cX8_copies 76 = .ok (.iload_n 2, 1) := by decide +kernel
theorem dX8_copies_77 : decode cX8_copies 77 = .ok (.iconst 0, 1) := by decide +kernel
theorem dX8_copies_78 : decode cX8_copies 78 = .ok (.iconst 0, 1) := by decide +kernel
theorem dX8_copies_79 : decode cX8_copies 79 = .ok (.invokevirtual 228, 3) := by decide +kernel
theorem dX8_copies_82 : decode cX8_copies 82 = .ok (.aload_n 0, 1) := by decide +kernel
theorem dX8_copies_83 : decode cX8_copies 83 = .ok (.getfield 36, 3) := by decide +kernel
theorem dX8_copies_86 : decode cX8_copies 86 = .ok (.getfield 248, 3) := by decide +kernel
theorem dX8_copies_89 : decode cX8_copies 89 = .ok (.iconst 2, 1) := by decide +kernel
theorem dX8_copies_90 : decode cX8_copies 90 = .ok (.iload 5, 2) := by decide +kernel
theorem dX8_copies_92 : decode cX8_copies 92 = .ok (.iastore, 1) := by decide +kernel
theorem dX8_copies_93 : decode cX8_copies 93 = .ok (.aload_n 0, 1) := by decide +kernel
theorem dX8_copies_94 : decode cX8_copies 94 = .ok (.getfield 36, 3) := by decide +kernel
theorem dX8_copies_97 : decode cX8_copies 97 = .ok (.aload_n 0, 1) := by decide +kernel
theorem dX8_copies_98 : decode cX8_copies 98 = .ok (.getfield 12, 3) := by decide +kernel
theorem dX8_copies_101 : decode cX8_copies 101 = .ok (.getfield 168, 3) := by decide +kernel
theorem dX8_copies_104 : decode cX8_copies 104 = .ok (.iconst 0, 1) := by decide +kernel
theorem dX8_copies_105 : decode cX8_copies 105 = .ok (.aaload, 1) := by decide +kernel
theorem dX8_copies_106 : decode cX8_copies 106 = .ok (.iconst 0, 1) := by decide +kernel
theorem dX8_copies_107 : decode cX8_copies 107 = .ok (.invokevirtual 232, 3) := by decide +kernel
theorem dX8_copies_110 : decode cX8_copies 110 = .ok (.istore 5, 2) := by decide +kernel
theorem dX8_copies_112 : decode cX8_copies 112 = .ok (.aload_n 0, 1) := by decide +kernel
theorem dX8_copies_113 : decode cX8_copies 113 = .ok (.getfield 63, 3) := by decide +kernel
theorem dX8_copies_116 : decode cX8_copies 116 = .ok (.iload 6, 2) := by decide +kernel
theorem dX8_copies_118 : decode cX8_copies 118 = .ok (.iload 5, 2) := by decide +kernel
theorem dX8_copies_120 : decode cX8_copies 120 = .ok (.iastore, 1) := by decide +kernel
theorem dX8_copies_121 : decode cX8_copies 121 = .ok (.iload 4, 2) := by decide +kernel
theorem dX8_copies_123 : decode cX8_copies 123 = .ok (.iload 5, 2) := by decide +kernel
theorem dX8_copies_125 : decode cX8_copies 125 = .ok (.invokestatic 251, 3) := by decide +kernel
theorem dX8_copies_128 : decode cX8_copies 128 = .ok (.istore 4, 2) := by decide +kernel
theorem dX8_copies_130 : decode cX8_copies 130 = .ok (.iinc 6 1, 3) := by decide +kernel
theorem dX8_copies_133 : decode cX8_copies 133 = .ok (.goto (-92), 3) := by decide +kernel
theorem dX8_copies_136 : decode cX8_copies 136 = .ok (.iload_n 3, 1) := by decide +kernel
theorem dX8_copies_137 : decode cX8_copies 137 = .ok (.iconst 2, 1) := by decide +kernel
theorem dX8_copies_138 : decode cX8_copies 138 = .ok (.if_icmp .ne 8, 3) := by decide +kernel
theorem dX8_copies_141 : decode cX8_copies 141 = .ok (.iload 4, 2) := by decide +kernel
theorem dX8_copies_143 : decode cX8_copies 143 = .ok (.goto 8, 3) := by decide +kernel
theorem dX8_copies_146 : decode cX8_copies 146 = .ok (.aload_n 0, 1) := by decide +kernel
theorem dX8_copies_147 : decode cX8_copies 147 = .ok (.iload_n 3, 1) := by decide +kernel
theorem dX8_copies_148 : decode cX8_copies 148 = .ok (.invokevirtual 254, 3) := by decide +kernel
theorem dX8_copies_151 : decode cX8_copies 151 = .ok (.ireturn, 1) := by decide +kernel
theorem dX8_sure_0 : decode cX8_sure 0 = .ok (.iconst 1, 1) := by decide +kernel
theorem dX8_sure_1 : decode cX8_sure 1 = .ok (.aload_n 0, 1) := by decide +kernel
theorem dX8_sure_2 : decode cX8_sure 2 = .ok (.getfield 12, 3) := by decide +kernel
theorem dX8_sure_5 : decode cX8_sure 5 = .ok (.invokevirtual 258, 3) := by decide +kernel
theorem dX8_sure_8 : decode cX8_sure 8 = .ok (.ishl, 1) := by decide +kernel
theorem dX8_sure_9 : decode cX8_sure 9 = .ok (.iconst 1, 1) := by decide +kernel
theorem dX8_sure_10 : decode cX8_sure 10 = .ok (.isub, 1) := by decide +kernel
theorem dX8_sure_11 : decode cX8_sure 11 = .ok (.istore 4, 2) := by decide +kernel
theorem dX8_sure_13 : decode cX8_sure 13 = .ok (.iload_n 1, 1) := by decide +kernel
theorem dX8_sure_14 : decode cX8_sure 14 = .ok (.iconst 0, 1) := by decide +kernel
theorem dX8_sure_15 : decode cX8_sure 15 = .ok (.sipush 1000, 3) := by decide +kernel
theorem dX8_sure_18 : decode cX8_sure 18 = .ok (.invokestatic 81, 3) := by decide +kernel
theorem dX8_sure_21 : decode cX8_sure 21 = .ok (.ifCond .eq 20, 3) := by decide +kernel
theorem dX8_sure_24 : decode cX8_sure 24 = .ok (.iload_n 2, 1) := by decide +kernel
theorem dX8_sure_25 : decode cX8_sure 25 = .ok (.iload_n 3, 1) := by decide +kernel
theorem dX8_sure_26 : decode cX8_sure 26 = .ok (.iand, 1) := by decide +kernel
theorem dX8_sure_27 : decode cX8_sure 27 = .ok (.ifCond .ne 14, 3) := by decide +kernel
theorem dX8_sure_30 : decode cX8_sure 30 = .ok (.iload_n 2, 1) := by decide +kernel
theorem dX8_sure_31 : decode cX8_sure 31 = .ok (.iload_n 3, 1) := by decide +kernel
theorem dX8_sure_32 : decode cX8_sure 32 = .ok (.ior, 1) := by decide +kernel
theorem dX8_sure_33 : decode cX8_sure 33 = .ok (.iload 4, 2) := by decide +kernel
theorem dX8_sure_35 : decode cX8_sure 35 = .ok (.iconst (-1), 1) := by decide +kernel
theorem dX8_sure_36 : decode cX8_sure 36 = .ok (.ixor, 1) := by decide +kernel
theorem dX8_sure_37 : decode cX8_sure 37 = .ok (.iand, 1) := by decide +kernel
theorem dX8_sure_38 : decode cX8_sure 38 = .ok (.ifCond .eq 5, 3) := by decide +kernel
theorem dX8_sure_41 : decode cX8_sure 41 = .ok (.iconst (-1), 1) := by decide +kernel
theorem dX8_sure_42 : decode cX8_sure 42 = .ok (.ireturn, 1) := by decide +kernel
theorem dX8_sure_43 : decode cX8_sure 43 = .ok (.iload_n 1, 1) := by decide +kernel
theorem dX8_sure_44 : decode cX8_sure 44 = .ok (.sipush 1000, 3) := by decide +kernel
theorem dX8_sure_47 : decode cX8_sure 47 = .ok (.imul, 1) := by decide +kernel
theorem dX8_sure_48 : decode cX8_sure 48 = .ok (.istore 5, 2) := by decide +kernel
theorem dX8_sure_50 : decode cX8_sure 50 = .ok (.iconst 0, 1) := by decide +kernel
theorem dX8_sure_51 : decode cX8_sure 51 = .ok (.istore 6, 2) := by decide +kernel
theorem dX8_sure_53 : decode cX8_sure 53 = .ok (.iload 6, 2) := by decide +kernel
theorem dX8_sure_55 : decode cX8_sure 55 = .ok (.aload_n 0, 1) := by decide +kernel
theorem dX8_sure_56 : decode cX8_sure 56 = .ok (.getfield 12, 3) := by decide +kernel
theorem dX8_sure_59 : decode cX8_sure 59 = .ok (.invokevirtual 258, 3) := by decide +kernel
theorem dX8_sure_62 : decode cX8_sure 62 = .ok (.if_icmp .ge 47, 3) := by decide +kernel
theorem dX8_sure_65 : decode cX8_sure 65 = .ok (.iload_n 2, 1) := by decide +kernel
theorem dX8_sure_66 : decode cX8_sure 66 = .ok (.iload_n 3, 1) := by decide +kernel
theorem dX8_sure_67 : decode cX8_sure 67 = .ok (.ior, 1) := by decide +kernel
theorem dX8_sure_68 : decode cX8_sure 68 = .ok (.iload 6, 2) := by decide +kernel
theorem dX8_sure_70 : decode cX8_sure 70 = .ok (.ishr, 1) := by decide +kernel
theorem dX8_sure_71 : decode cX8_sure 71 = .ok (.iconst 1, 1) := by decide +kernel
theorem dX8_sure_72 : decode cX8_sure 72 = .ok (.iand, 1) := by decide +kernel
theorem dX8_sure_73 : decode cX8_sure 73 = .ok (.ifCond .eq 30, 3) := by decide +kernel
theorem dX8_sure_76 : decode cX8_sure 76 = .ok (.aload_n 0, 1) := by decide +kernel
theorem dX8_sure_77 : decode cX8_sure 77 = .ok (.getfield 12, 3) := by decide +kernel
theorem dX8_sure_80 : decode cX8_sure 80 = .ok (.iload 5, 2) := by decide +kernel
theorem dX8_sure_82 : decode cX8_sure 82 = .ok (.iload 6, 2) := by decide +kernel
theorem dX8_sure_84 : decode cX8_sure 84 = .ok (.iload_n 2, 1) := by decide +kernel
theorem dX8_sure_85 : decode cX8_sure 85 = .ok (.iload 6, 2) := by decide +kernel
theorem dX8_sure_87 : decode cX8_sure 87 = .ok (.ishr, 1) := by decide +kernel
theorem dX8_sure_88 : decode cX8_sure 88 = .ok (.iconst 1, 1) := by decide +kernel
theorem dX8_sure_89 : decode cX8_sure 89 = .ok (.iand, 1) := by decide +kernel
theorem dX8_sure_90 : decode cX8_sure 90 = .ok (.ifCond .eq 7, 3) := by decide +kernel
theorem dX8_sure_93 : decode cX8_sure 93 = .ok (.iconst 1, 1) := by decide +kernel
theorem dX8_sure_94 : decode cX8_sure 94 = .ok (.goto 4, 3) := by decide +kernel
theorem dX8_sure_97 : decode cX8_sure 97 = .ok (.iconst 0, 1) := by decide +kernel
theorem dX8_sure_98 : decode cX8_sure 98 = .ok (.invokevirtual 261, 3) := by decide +kernel
theorem dX8_sure_101 : decode cX8_sure 101 = .ok (.istore 5, 2) := by decide +kernel
theorem dX8_sure_103 : decode cX8_sure 103 = .ok (.iinc 6 1, 3) := by decide +kernel
theorem dX8_sure_106 : decode cX8_sure 106 = .ok (.goto (-53), 3) := by decide +kernel
theorem dX8_sure_109 : decode cX8_sure 109 = .ok (.iload 5, 2) := by decide +kernel
theorem dX8_sure_111 : decode cX8_sure 111 = .ok (.ireturn, 1) := by decide +kernel
theorem dX8_needs_0 : decode cX8_needs 0 = .ok (.iload_n 1, 1) := by decide +kernel
theorem dX8_needs_1 : decode cX8_needs 1 = .ok (.iconst 0, 1) := by decide +kernel
theorem dX8_needs_2 : decode cX8_needs 2 = .ok (.sipush 1000, 3) := by decide +kernel
theorem dX8_needs_5 : decode cX8_needs 5 = .ok (.invokestatic 81, 3) := by decide +kernel
theorem dX8_needs_8 : decode cX8_needs 8 = .ok (.ifCond .eq 20, 3) := by decide +kernel
theorem dX8_needs_11 : decode cX8_needs 11 = .ok (.iload_n 2, 1) := by decide +kernel
theorem dX8_needs_12 : decode cX8_needs 12 = .ok (.iconst 0, 1) := by decide +kernel
theorem dX8_needs_13 : decode cX8_needs 13 = .ok (.aload_n 0, 1) := by decide +kernel
theorem dX8_needs_14 : decode cX8_needs 14 = .ok (.getfield 12, 3) := by decide +kernel
theorem dX8_needs_17 : decode cX8_needs 17 = .ok (.invokevirtual 258, 3) := by decide +kernel
theorem dX8_needs_20 : decode cX8_needs 20 = .ok (.iconst 1, 1) := by decide +kernel
theorem dX8_needs_21 : decode cX8_needs 21 = .ok (.isub, 1) := by decide +kernel
theorem dX8_needs_22 : decode cX8_needs 22 = .ok (.invokestatic 81, 3) := by decide +kernel
theorem dX8_needs_25 : decode cX8_needs 25 = .ok (.ifCond .ne 5, 3) := by decide +kernel
theorem dX8_needs_28 : decode cX8_needs 28 = .ok (.iconst (-1), 1) := by decide +kernel
theorem dX8_needs_29 : decode cX8_needs 29 = .ok (.ireturn, 1) := by decide +kernel
theorem dX8_needs_30 : decode cX8_needs 30 = .ok (.iload_n 1, 1) := by decide +kernel
theorem dX8_needs_31 : decode cX8_needs 31 = .ok (.sipush 1000, 3) := by decide +kernel
theorem dX8_needs_34 : decode cX8_needs 34 = .ok (.imul, 1) := by decide +kernel
theorem dX8_needs_35 : decode cX8_needs 35 = .ok (.istore_n 3, 1) := by decide +kernel
theorem dX8_needs_36 : decode cX8_needs 36 = .ok (.iconst 0, 1) := by decide +kernel
theorem dX8_needs_37 : decode cX8_needs 37 = .ok (.istore 4, 2) := by decide +kernel
theorem dX8_needs_39 : decode cX8_needs 39 = .ok (.iload 4, 2) := by decide +kernel
theorem dX8_needs_41 : decode cX8_needs 41 = .ok (.bipush 60, 2) := by decide +kernel
theorem dX8_needs_43 : decode cX8_needs 43 = .ok (.if_icmp .gt 30, 3) := by decide +kernel
theorem dX8_needs_46 : decode cX8_needs 46 = .ok (.iload_n 3, 1) := by decide +kernel
theorem dX8_needs_47 : decode cX8_needs 47 = .ok (.ldc_w 265, 3) := by decide +kernel
theorem dX8_needs_50 : decode cX8_needs 50 = .ok (.if_icmp .lt 6, 3) := by decide +kernel
theorem dX8_needs_53 : decode cX8_needs 53 = .ok (.iload 4, 2) := by decide +kernel
theorem dX8_needs_55 : decode cX8_needs 55 = .ok (.ireturn, 1) := by decide +kernel
theorem dX8_needs_56 : decode cX8_needs 56 = .ok (.aload_n 0, 1) := by decide +kernel
theorem dX8_needs_57 : decode cX8_needs 57 = .ok (.getfield 12, 3) := by decide +kernel
theorem dX8_needs_60 : decode cX8_needs 60 = .ok (.iload_n 3, 1) := by decide +kernel
theorem dX8_needs_61 : decode cX8_needs 61 = .ok (.iload_n 2, 1) := by decide +kernel
theorem dX8_needs_62 : decode cX8_needs 62 = .ok (.iconst 1, 1) := by decide +kernel
theorem dX8_needs_63 : decode cX8_needs 63 = .ok (.invokevirtual 261, 3) := by decide +kernel
theorem dX8_needs_66 : decode cX8_needs 66 = .ok (.istore_n 3, 1) := by decide +kernel
theorem dX8_needs_67 : decode cX8_needs 67 = .ok (.iinc 4 1, 3) := by decide +kernel
theorem dX8_needs_70 : decode cX8_needs 70 = .ok (.goto (-31), 3) := by decide +kernel
theorem dX8_needs_73 : decode cX8_needs 73 = .ok (.iconst (-1), 1) := by decide +kernel
theorem dX8_needs_74 : decode cX8_needs 74 = .ok (.ireturn, 1) := by decide +kernel
theorem dX8_waits_0 : decode cX8_waits 0 = .ok (.iload_n 1, 1) := by decide +kernel
theorem dX8_waits_1 : decode cX8_waits 1 = .ok (.iconst 0, 1) := by decide +kernel
theorem dX8_waits_2 : decode cX8_waits 2 = .ok (.sipush 1000, 3) := by decide +kernel
theorem dX8_waits_5 : decode cX8_waits 5 = .ok (.invokestatic 81, 3) := by decide +kernel
theorem dX8_waits_8 : decode cX8_waits 8 = .ok (.ifCond .ne 5, 3) := by decide +kernel
theorem dX8_waits_11 : decode cX8_waits 11 = .ok (.iconst (-1), 1) := by decide +kernel
theorem dX8_waits_12 : decode cX8_waits 12 = .ok (.ireturn, 1) := by decide +kernel
theorem dX8_waits_13 : decode cX8_waits 13 = .ok (.iconst (-1), 1) := by decide +kernel
theorem dX8_waits_14 : decode cX8_waits 14 = .ok (.istore_n 2, 1) := by decide +kernel
theorem dX8_waits_15 : decode cX8_waits 15 = .ok (.iconst (-1), 1) := by decide +kernel
theorem dX8_waits_16 : decode cX8_waits 16 = .ok (.istore_n 3, 1) := by decide +kernel
theorem dX8_waits_17 : decode cX8_waits 17 = .ok (.iconst 0, 1) := by decide +kernel
theorem dX8_waits_18 : decode cX8_waits 18 = .ok (.istore 4, 2) := by decide +kernel
theorem dX8_waits_20 : decode cX8_waits 20 = .ok (.iload 4, 2) := by decide +kernel
theorem dX8_waits_22 : decode cX8_waits 22 = .ok (.aload_n 0, 1) := by decide +kernel
theorem dX8_waits_23 : decode cX8_waits 23 = .ok (.getfield 12, 3) := by decide +kernel
theorem dX8_waits_26 : decode cX8_waits 26 = .ok (.invokevirtual 258, 3) := by decide +kernel
theorem dX8_waits_29 : decode cX8_waits 29 = .ok (.if_icmp .ge 57, 3) := by decide +kernel
theorem dX8_waits_32 : decode cX8_waits 32 = .ok (.aload_n 0, 1) := by decide +kernel
theorem dX8_waits_33 : decode cX8_waits 33 = .ok (.getfield 12, 3) := by decide +kernel
theorem dX8_waits_36 : decode cX8_waits 36 = .ok (.iload_n 1, 1) := by decide +kernel
theorem dX8_waits_37 : decode cX8_waits 37 = .ok (.sipush 1000, 3) := by decide +kernel
theorem dX8_waits_40 : decode cX8_waits 40 = .ok (.imul, 1) := by decide +kernel
theorem dX8_waits_41 : decode cX8_waits 41 = .ok (.iload 4, 2) := by decide +kernel
theorem dX8_waits_43 : decode cX8_waits 43 = .ok (.iconst 1, 1) := by decide +kernel
theorem dX8_waits_44 : decode cX8_waits 44 = .ok (.invokevirtual 261, 3) := by decide +kernel
theorem dX8_waits_47 : decode cX8_waits 47 = .ok (.aload_n 0, 1) := by decide +kernel
theorem dX8_waits_48 : decode cX8_waits 48 = .ok (.getfield 12, 3) := by decide +kernel
theorem dX8_waits_51 : decode cX8_waits 51 = .ok (.iload_n 1, 1) := by decide +kernel
theorem dX8_waits_52 : decode cX8_waits 52 = .ok (.sipush 1000, 3) := by decide +kernel
theorem dX8_waits_55 : decode cX8_waits 55 = .ok (.imul, 1) := by decide +kernel
theorem dX8_waits_56 : decode cX8_waits 56 = .ok (.iload 4, 2) := by decide +kernel
theorem dX8_waits_58 : decode cX8_waits 58 = .ok (.iconst 0, 1) := by decide +kernel
theorem dX8_waits_59 : decode cX8_waits 59 = .ok (.invokevirtual 261, 3) := by decide +kernel
theorem dX8_waits_62 : decode cX8_waits 62 = .ok (.isub, 1) := by decide +kernel
theorem dX8_waits_63 : decode cX8_waits 63 = .ok (.invokestatic 266, 3) := by decide +kernel
theorem dX8_waits_66 : decode cX8_waits 66 = .ok (.istore 5, 2) := by decide +kernel
theorem dX8_waits_68 : decode cX8_waits 68 = .ok (.iload 5, 2) := by decide +kernel
theorem dX8_waits_70 : decode cX8_waits 70 = .ok (.iload_n 3, 1) := by decide +kernel
theorem dX8_waits_71 : decode cX8_waits 71 = .ok (.if_icmp .le 9, 3) := by decide +kernel
theorem dX8_waits_74 : decode cX8_waits 74 = .ok (.iload 5, 2) := by decide +kernel
theorem dX8_waits_76 : decode cX8_waits 76 = .ok (.istore_n 3, 1) := by decide +kernel
theorem dX8_waits_77 : decode cX8_waits 77 = .ok (.iload 4, 2) := by decide +kernel
theorem dX8_waits_79 : decode cX8_waits 79 = .ok (.istore_n 2, 1) := by decide +kernel
theorem dX8_waits_80 : decode cX8_waits 80 = .ok (.iinc 4 1, 3) := by decide +kernel
theorem dX8_waits_83 : decode cX8_waits 83 = .ok (.goto (-63), 3) := by decide +kernel
theorem dX8_waits_86 : decode cX8_waits 86 = .ok (.iload_n 2, 1) := by decide +kernel
theorem dX8_waits_87 : decode cX8_waits 87 = .ok (.ireturn, 1) := by decide +kernel
theorem dX8_which_0 : decode cX8_which 0 = .ok (.iload_n 1, 1) := by decide +kernel
theorem dX8_which_1 : decode cX8_which 1 = .ok (.invokestatic 85, 3) := by decide +kernel
theorem dX8_which_4 : decode cX8_which 4 = .ok (.ifCond .eq 21, 3) := by decide +kernel
theorem dX8_which_7 : decode cX8_which 7 = .ok (.aload_n 0, 1) := by decide +kernel
theorem dX8_which_8 : decode cX8_which 8 = .ok (.getfield 59, 3) := by decide +kernel
theorem dX8_which_11 : decode cX8_which 11 = .ok (.aload_n 0, 1) := by decide +kernel
theorem dX8_which_12 : decode cX8_which 12 = .ok (.getfield 12, 3) := by decide +kernel
theorem dX8_which_15 : decode cX8_which 15 = .ok (.getfield 71, 3) := by decide +kernel
theorem dX8_which_18 : decode cX8_which 18 = .ok (.iload_n 1, 1) := by decide +kernel
theorem dX8_which_19 : decode cX8_which 19 = .ok (.invokevirtual 269, 3) := by decide +kernel
theorem dX8_which_22 : decode cX8_which 22 = .ok (.goto 4, 3) := by decide +kernel
theorem dX8_which_25 : decode cX8_which 25 = .ok (.iconst (-1), 1) := by decide +kernel
theorem dX8_which_26 : decode cX8_which 26 = .ok (.ireturn, 1) := by decide +kernel
theorem dX8_drift_0 : decode cX8_drift 0 = .ok (.iload_n 1, 1) := by decide +kernel
theorem dX8_drift_1 : decode cX8_drift 1 = .ok (.invokestatic 85, 3) := by decide +kernel
theorem dX8_drift_4 : decode cX8_drift 4 = .ok (.ifCond .eq 12, 3) := by decide +kernel
theorem dX8_drift_7 : decode cX8_drift 7 = .ok (.iload_n 2, 1) := by decide +kernel
theorem dX8_drift_8 : decode cX8_drift 8 = .ok (.iconst 0, 1) := by decide +kernel
theorem dX8_drift_9 : decode cX8_drift 9 = .ok (.iconst 1, 1) := by decide +kernel
theorem dX8_drift_10 : decode cX8_drift 10 = .ok (.invokestatic 81, 3) := by decide +kernel
theorem dX8_drift_13 : decode cX8_drift 13 = .ok (.ifCond .ne 6, 3) := by decide +kernel
theorem dX8_drift_16 : decode cX8_drift 16 = .ok (.bipush (-100), 2) := by decide +kernel
theorem dX8_drift_18 : decode cX8_drift 18 = .ok (.ireturn, 1) := by decide +kernel
theorem dX8_drift_19 : decode cX8_drift 19 = .ok (.iload_n 2, 1) := by decide +kernel
theorem dX8_drift_20 : decode cX8_drift 20 = .ok (.ifCond .ne 21, 3) := by decide +kernel
theorem dX8_drift_23 : decode cX8_drift 23 = .ok (.aload_n 0, 1) := by decide +kernel
theorem dX8_drift_24 : decode cX8_drift 24 = .ok (.getfield 59, 3) := by decide +kernel
theorem dX8_drift_27 : decode cX8_drift 27 = .ok (.aload_n 0, 1) := by decide +kernel
theorem dX8_drift_28 : decode cX8_drift 28 = .ok (.getfield 12, 3) := by decide +kernel
theorem dX8_drift_31 : decode cX8_drift 31 = .ok (.getfield 71, 3) := by decide +kernel
theorem dX8_drift_34 : decode cX8_drift 34 = .ok (.iload_n 1, 1) := by decide +kernel
theorem dX8_drift_35 : decode cX8_drift 35 = .ok (.invokevirtual 273, 3) := by decide +kernel
theorem dX8_drift_38 : decode cX8_drift 38 = .ok (.goto 18, 3) := by decide +kernel
theorem dX8_drift_41 : decode cX8_drift 41 = .ok (.aload_n 0, 1) := by decide +kernel
theorem dX8_drift_42 : decode cX8_drift 42 = .ok (.getfield 59, 3) := by decide +kernel
theorem dX8_drift_45 : decode cX8_drift 45 = .ok (.aload_n 0, 1) := by decide +kernel
theorem dX8_drift_46 : decode cX8_drift 46 = .ok (.getfield 12, 3) := by decide +kernel
theorem dX8_drift_49 : decode cX8_drift 49 = .ok (.getfield 71, 3) := by decide +kernel
theorem dX8_drift_52 : decode cX8_drift 52 = .ok (.iload_n 1, 1) := by decide +kernel
theorem dX8_drift_53 : decode cX8_drift 53 = .ok (.invokevirtual 276, 3) := by decide +kernel
theorem dX8_drift_56 : decode cX8_drift 56 = .ok (.ireturn, 1) := by decide +kernel
theorem dX8_pauses_0 : decode cX8_pauses 0 = .ok (.iload_n 1, 1) := by decide +kernel
theorem dX8_pauses_1 : decode cX8_pauses 1 = .ok (.invokestatic 85, 3) := by decide +kernel
theorem dX8_pauses_4 : decode cX8_pauses 4 = .ok (.ifCond .ne 5, 3) := by decide +kernel
theorem dX8_pauses_7 : decode cX8_pauses 7 = .ok (.iconst (-1), 1) := by decide +kernel
theorem dX8_pauses_8 : decode cX8_pauses 8 = .ok (.ireturn, 1) := by decide +kernel
theorem dX8_pauses_9 : decode cX8_pauses 9 = .ok (.iload_n 2, 1) := by decide +kernel
theorem dX8_pauses_10 : decode cX8_pauses 10 = .ok (.tableswitch 74 0 2 #[26, 42, 58], 26) := by decide +kernel
theorem dX8_pauses_36 : decode cX8_pauses 36 = .ok (.aload_n 0, 1) := by decide +kernel
theorem dX8_pauses_37 : decode cX8_pauses 37 = .ok (.getfield 59, 3) := by decide +kernel
theorem dX8_pauses_40 : decode cX8_pauses 40 = .ok (.aload_n 0, 1) := by decide +kernel
theorem dX8_pauses_41 : decode cX8_pauses 41 = .ok (.getfield 12, 3) := by decide +kernel
theorem dX8_pauses_44 : decode cX8_pauses 44 = .ok (.getfield 71, 3) := by decide +kernel
theorem dX8_pauses_47 : decode cX8_pauses 47 = .ok (.iload_n 1, 1) := by decide +kernel
theorem dX8_pauses_48 : decode cX8_pauses 48 = .ok (.invokevirtual 279, 3) := by decide +kernel
theorem dX8_pauses_51 : decode cX8_pauses 51 = .ok (.ireturn, 1) := by decide +kernel
theorem dX8_pauses_52 : decode cX8_pauses 52 = .ok (.aload_n 0, 1) := by decide +kernel
theorem dX8_pauses_53 : decode cX8_pauses 53 = .ok (.getfield 59, 3) := by decide +kernel
theorem dX8_pauses_56 : decode cX8_pauses 56 = .ok (.aload_n 0, 1) := by decide +kernel
theorem dX8_pauses_57 : decode cX8_pauses 57 = .ok (.getfield 12, 3) := by decide +kernel
theorem dX8_pauses_60 : decode cX8_pauses 60 = .ok (.getfield 71, 3) := by decide +kernel
theorem dX8_pauses_63 : decode cX8_pauses 63 = .ok (.iload_n 1, 1) := by decide +kernel
theorem dX8_pauses_64 : decode cX8_pauses 64 = .ok (.invokevirtual 282, 3) := by decide +kernel
theorem dX8_pauses_67 : decode cX8_pauses 67 = .ok (.ireturn, 1) := by decide +kernel
theorem dX8_pauses_68 : decode cX8_pauses 68 = .ok (.aload_n 0, 1) := by decide +kernel
theorem dX8_pauses_69 : decode cX8_pauses 69 = .ok (.getfield 59, 3) := by decide +kernel
theorem dX8_pauses_72 : decode cX8_pauses 72 = .ok (.aload_n 0, 1) := by decide +kernel
theorem dX8_pauses_73 : decode cX8_pauses 73 = .ok (.getfield 12, 3) := by decide +kernel
theorem dX8_pauses_76 : decode cX8_pauses 76 = .ok (.getfield 71, 3) := by decide +kernel
theorem dX8_pauses_79 : decode cX8_pauses 79 = .ok (.iload_n 1, 1) := by decide +kernel
theorem dX8_pauses_80 : decode cX8_pauses 80 = .ok (.invokevirtual 285, 3) := by decide +kernel
theorem dX8_pauses_83 : decode cX8_pauses 83 = .ok (.ireturn, 1) := by decide +kernel
theorem dX8_pauses_84 : decode cX8_pauses 84 = .ok (.iconst (-1), 1) := by decide +kernel
theorem dX8_pauses_85 : decode cX8_pauses 85 = .ok (.ireturn, 1) := by decide +kernel
theorem dX8_time_0 : decode cX8_time 0 = .ok (.iload_n 1, 1) := by decide +kernel
theorem dX8_time_1 : decode cX8_time 1 = .ok (.iconst (-1), 1) := by decide +kernel
theorem dX8_time_2 : decode cX8_time 2 = .ok (.if_icmp .ne 13, 3) := by decide +kernel
theorem dX8_time_5 : decode cX8_time 5 = .ok (.aload_n 0, 1) := by decide +kernel
theorem dX8_time_6 : decode cX8_time 6 = .ok (.getfield 12, 3) := by decide +kernel
theorem dX8_time_9 : decode cX8_time 9 = .ok (.iconst 0, 1) := by decide +kernel
theorem dX8_time_10 : decode cX8_time 10 = .ok (.putfield 288, 3) := by decide +kernel
theorem dX8_time_13 : decode cX8_time 13 = .ok (.iconst 0, 1) := by decide +kernel
theorem dX8_time_14 : decode cX8_time 14 = .ok (.ireturn, 1) := by decide +kernel
theorem dX8_time_15 : decode cX8_time 15 = .ok (.iload_n 1, 1) := by decide +kernel
theorem dX8_time_16 : decode cX8_time 16 = .ok (.iconst 0, 1) := by decide +kernel
theorem dX8_time_17 : decode cX8_time 17 = .ok (.sipush 1439, 3) := by decide +kernel
theorem dX8_time_20 : decode cX8_time 20 = .ok (.invokestatic 81, 3) := by decide +kernel
theorem dX8_time_23 : decode cX8_time 23 = .ok (.ifCond .eq 15, 3) := by decide +kernel
theorem dX8_time_26 : decode cX8_time 26 = .ok (.aload_n 0, 1) := by decide +kernel
theorem dX8_time_27 : decode cX8_time 27 = .ok (.getfield 12, 3) := by decide +kernel
theorem dX8_time_30 : decode cX8_time 30 = .ok (.getfield 288, 3) := by decide +kernel
theorem dX8_time_33 : decode cX8_time 33 = .ok (.bipush 10, 2) := by decide +kernel
theorem dX8_time_35 : decode cX8_time 35 = .ok (.if_icmp .lt 5, 3) := by decide +kernel
theorem dX8_time_38 : decode cX8_time 38 = .ok (.iconst (-1), 1) := by decide +kernel
theorem dX8_time_39 : decode cX8_time 39 = .ok (.ireturn, 1) := by decide +kernel
theorem dX8_time_40 : decode cX8_time 40 = .ok (.aload_n 0, 1) := by decide +kernel
theorem dX8_time_41 : decode cX8_time 41 = .ok (.getfield 12, 3) := by decide +kernel
theorem dX8_time_44 : decode cX8_time 44 = .ok (.getfield 291, 3) := by decide +kernel
theorem dX8_time_47 : decode cX8_time 47 = .ok (.aload_n 0, 1) := by decide +kernel
theorem dX8_time_48 : decode cX8_time 48 = .ok (.getfield 12, 3) := by decide +kernel
theorem dX8_time_51 : decode cX8_time 51 = .ok (.getfield 288, 3) := by decide +kernel
theorem dX8_time_54 : decode cX8_time 54 = .ok (.iload_n 1, 1) := by decide +kernel
theorem dX8_time_55 : decode cX8_time 55 = .ok (.iastore, 1) := by decide +kernel
theorem dX8_time_56 : decode cX8_time 56 = .ok (.aload_n 0, 1) := by decide +kernel
theorem dX8_time_57 : decode cX8_time 57 = .ok (.getfield 12, 3) := by decide +kernel
theorem dX8_time_60 : decode cX8_time 60 = .ok (.dup, 1) := by decide +kernel
theorem dX8_time_61 : decode cX8_time 61 = .ok (.getfield 288, 3) := by decide +kernel
theorem dX8_time_64 : decode cX8_time 64 = .ok (.iconst 1, 1) := by decide +kernel
theorem dX8_time_65 : decode cX8_time 65 = .ok (.iadd, 1) := by decide +kernel
theorem dX8_time_66 : decode cX8_time 66 = .ok (.putfield 288, 3) := by decide +kernel
theorem dX8_time_69 : decode cX8_time 69 = .ok (.aload_n 0, 1) := by decide +kernel
theorem dX8_time_70 : decode cX8_time 70 = .ok (.getfield 12, 3) := by decide +kernel
theorem dX8_time_73 : decode cX8_time 73 = .ok (.getfield 288, 3) := by decide +kernel
theorem dX8_time_76 : decode cX8_time 76 = .ok (.ireturn, 1) := by decide +kernel
theorem dX8_fits_0 : decode cX8_fits 0 = .ok (.iload_n 1, 1) := by decide +kernel
theorem dX8_fits_1 : decode cX8_fits 1 = .ok (.iconst 0, 1) := by decide +kernel
theorem dX8_fits_2 : decode cX8_fits 2 = .ok (.iconst 2, 1) := by decide +kernel
theorem dX8_fits_3 : decode cX8_fits 3 = .ok (.invokestatic 81, 3) := by decide +kernel
theorem dX8_fits_6 : decode cX8_fits 6 = .ok (.ifCond .ne 5, 3) := by decide +kernel
theorem dX8_fits_9 : decode cX8_fits 9 = .ok (.iconst (-1), 1) := by decide +kernel
theorem dX8_fits_10 : decode cX8_fits 10 = .ok (.ireturn, 1) := by decide +kernel
theorem dX8_fits_11 : decode cX8_fits 11 = .ok (.iconst 0, 1) := by decide +kernel
theorem dX8_fits_12 : decode cX8_fits 12 = .ok (.istore_n 2, 1) := by decide +kernel
theorem dX8_fits_13 : decode cX8_fits 13 = .ok (.iconst (-1), 1) := by decide +kernel
theorem dX8_fits_14 : decode cX8_fits 14 = .ok (.istore_n 3, 1) := by decide +kernel
theorem dX8_fits_15 : decode cX8_fits 15 = .ok (.iconst (-1), 1) := by decide +kernel
theorem dX8_fits_16 : decode cX8_fits 16 = .ok (.istore 4, 2) := by decide +kernel
theorem dX8_fits_18 : decode cX8_fits 18 = .ok (.bipush 60, 2) := by decide +kernel
theorem dX8_fits_20 : decode cX8_fits 20 = .ok (.istore 5, 2) := by decide +kernel
theorem dX8_fits_22 : decode cX8_fits 22 = .ok (.iload 5, 2) := by decide +kernel
theorem dX8_fits_24 : decode cX8_fits 24 = .ok (.bipush 10, 2) := by decide +kernel
theorem dX8_fits_26 : decode cX8_fits 26 = .ok (.if_icmp .lt 54, 3) := by decide +kernel
theorem dX8_fits_29 : decode cX8_fits 29 = .ok (.iconst 0, 1) := by decide +kernel
theorem dX8_fits_30 : decode cX8_fits 30 = .ok (.istore 6, 2) := by decide +kernel
theorem dX8_fits_32 : decode cX8_fits 32 = .ok (.iload 6, 2) := by decide +kernel
theorem dX8_fits_34 : decode cX8_fits 34 = .ok (.iload 5, 2) := by decide +kernel
theorem dX8_fits_36 : decode cX8_fits 36 = .ok (.if_icmp .ge 38, 3) := by decide +kernel
theorem dX8_fits_39 : decode cX8_fits 39 = .ok (.aload_n 0, 1) := by decide +kernel
theorem dX8_fits_40 : decode cX8_fits 40 = .ok (.getfield 12, 3) := by decide +kernel
theorem dX8_fits_43 : decode cX8_fits 43 = .ok (.iload 5, 2) := by decide +kernel
theorem dX8_fits_45 : decode cX8_fits 45 = .ok (.iload 6, 2) := by decide +kernel
theorem dX8_fits_47 : decode cX8_fits 47 = .ok (.invokevirtual 294, 3) := by decide +kernel
theorem dX8_fits_50 : decode cX8_fits 50 = .ok (.ifCond .eq 18, 3) := by decide +kernel
theorem dX8_fits_53 : decode cX8_fits 53 = .ok (.iinc 2 1, 3) := by decide +kernel
theorem dX8_fits_56 : decode cX8_fits 56 = .ok (.iload_n 3, 1) := by decide +kernel
theorem dX8_fits_57 : decode cX8_fits 57 = .ok (.iconst (-1), 1) := by decide +kernel
theorem dX8_fits_58 : decode cX8_fits 58 = .ok (.if_icmp .ne 10, 3) := by decide +kernel
theorem dX8_fits_61 : decode cX8_fits 61 = .ok (.iload 5, 2) := by decide +kernel
theorem dX8_fits_63 : decode cX8_fits 63 = .ok (.istore_n 3, 1) := by decide +kernel
theorem dX8_fits_64 : decode cX8_fits 64 = .ok (.iload 6, 2) := by decide +kernel
theorem dX8_fits_66 : decode cX8_fits 66 = .ok (.istore 4, 2) := by decide +kernel
theorem dX8_fits_68 : decode cX8_fits 68 = .ok (.iinc 6 1, 3) := by decide +kernel
theorem dX8_fits_71 : decode cX8_fits 71 = .ok (.goto (-39), 3) := by decide +kernel
theorem dX8_fits_74 : decode cX8_fits 74 = .ok (.iinc 5 (-1), 3) := by decide +kernel
theorem dX8_fits_77 : decode cX8_fits 77 = .ok (.goto (-55), 3) := by decide +kernel
theorem dX8_fits_80 : decode cX8_fits 80 = .ok (.iload_n 1, 1) := by decide +kernel
theorem dX8_fits_81 : decode cX8_fits 81 = .ok (.ifCond .ne 5, 3) := by decide +kernel
theorem dX8_fits_84 : decode cX8_fits 84 = .ok (.iload_n 2, 1) := by decide +kernel
theorem dX8_fits_85 : decode cX8_fits 85 = .ok (.ireturn, 1) := by decide +kernel
theorem dX8_fits_86 : decode cX8_fits 86 = .ok (.iload_n 1, 1) := by decide +kernel
theorem dX8_fits_87 : decode cX8_fits 87 = .ok (.iconst 1, 1) := by decide +kernel
theorem dX8_fits_88 : decode cX8_fits 88 = .ok (.if_icmp .ne 7, 3) := by decide +kernel
theorem dX8_fits_91 : decode cX8_fits 91 = .ok (.iload_n 3, 1) := by decide +kernel
theorem dX8_fits_92 : decode cX8_fits 92 = .ok (.goto 5, 3) := by decide +kernel
theorem dX8_fits_95 : decode cX8_fits 95 = .ok (.iload 4, 2) := by decide +kernel
theorem dX8_fits_97 : decode cX8_fits 97 = .ok (.ireturn, 1) := by decide +kernel
theorem dX8_game_0 : decode cX8_game 0 = .ok (.iload_n 1, 1) := by decide +kernel
theorem dX8_game_1 : decode cX8_game 1 = .ok (.iconst 0, 1) := by decide +kernel
theorem dX8_game_2 : decode cX8_game 2 = .ok (.iconst 1, 1) := by decide +kernel
theorem dX8_game_3 : decode cX8_game 3 = .ok (.invokestatic 81, 3) := by decide +kernel
theorem dX8_game_6 : decode cX8_game 6 = .ok (.ifCond .ne 5, 3) := by decide +kernel
theorem dX8_game_9 : decode cX8_game 9 = .ok (.iconst (-1), 1) := by decide +kernel
theorem dX8_game_10 : decode cX8_game 10 = .ok (.ireturn, 1) := by decide +kernel
theorem dX8_game_11 : decode cX8_game 11 = .ok (.aload_n 0, 1) := by decide +kernel
theorem dX8_game_12 : decode cX8_game 12 = .ok (.getfield 12, 3) := by decide +kernel
theorem dX8_game_15 : decode cX8_game 15 = .ok (.getfield 71, 3) := by decide +kernel
theorem dX8_game_18 : decode cX8_game 18 = .ok (.astore_n 2, 1) := by decide +kernel
theorem dX8_game_19 : decode cX8_game 19 = .ok (.aload_n 0, 1) := by decide +kernel
theorem dX8_game_20 : decode cX8_game 20 = .ok (.getfield 59, 3) := by decide +kernel
theorem dX8_game_23 : decode cX8_game 23 = .ok (.aload_n 2, 1) := by decide +kernel
theorem dX8_game_24 : decode cX8_game 24 = .ok (.invokevirtual 298, 3) := by decide +kernel
theorem dX8_game_27 : decode cX8_game 27 = .ok (.istore_n 3, 1) := by decide +kernel
theorem dX8_game_28 : decode cX8_game 28 = .ok (.iconst 0, 1) := by decide +kernel
theorem dX8_game_29 : decode cX8_game 29 = .ok (.istore 4, 2) := by decide +kernel
theorem dX8_game_31 : decode cX8_game 31 = .ok (.iload 4, 2) := by decide +kernel
theorem dX8_game_33 : decode cX8_game 33 = .ok (.aload_n 2, 1) := by decide +kernel
theorem dX8_game_34 : decode cX8_game 34 = .ok (.getfield 138, 3) := by decide +kernel
theorem dX8_game_37 : decode cX8_game 37 = .ok (.if_icmp .ge 57, 3) := by decide +kernel
theorem dX8_game_40 : decode cX8_game 40 = .ok (.iload_n 3, 1) := by decide +kernel
theorem dX8_game_41 : decode cX8_game 41 = .ok (.ifCond .eq 53, 3) := by decide +kernel
theorem dX8_game_44 : decode cX8_game 44 = .ok (.aload_n 2, 1) := by decide +kernel
theorem dX8_game_45 : decode cX8_game 45 = .ok (.iload 4, 2) := by decide +kernel
theorem dX8_game_47 : decode cX8_game 47 = .ok (.invokevirtual 123, 3) := by decide +kernel
theorem dX8_game_50 : decode cX8_game 50 = .ok (.ifCond .eq 17, 3) := by decide +kernel
theorem dX8_game_53 : decode cX8_game 53 = .ok (.aload_n 0, 1) := by decide +kernel
theorem dX8_game_54 : decode cX8_game 54 = .ok (.getfield 59, 3) := by decide +kernel
theorem dX8_game_57 : decode cX8_game 57 = .ok (.aload_n 2, 1) := by decide +kernel
theorem dX8_game_58 : decode cX8_game 58 = .ok (.iload 4, 2) := by decide +kernel
theorem dX8_game_60 : decode cX8_game 60 = .ok (.iload_n 3, 1) := by decide +kernel
theorem dX8_game_61 : decode cX8_game 61 = .ok (.invokevirtual 302, 3) := by decide +kernel
theorem dX8_game_64 : decode cX8_game 64 = .ok (.goto 4, 3) := by decide +kernel
theorem dX8_game_67 : decode cX8_game 67 = .ok (.iconst (-1), 1) := by decide +kernel
theorem dX8_game_68 : decode cX8_game 68 = .ok (.istore 5, 2) := by decide +kernel
theorem dX8_game_70 : decode cX8_game 70 = .ok (.iload 5, 2) := by decide +kernel
theorem dX8_game_72 : decode cX8_game 72 = .ok (.iconst (-1), 1) := by decide +kernel
theorem dX8_game_73 : decode cX8_game 73 = .ok (.if_icmp .eq 15, 3) := by decide +kernel
theorem dX8_game_76 : decode cX8_game 76 = .ok (.iload_n 1, 1) := by decide +kernel
theorem dX8_game_77 : decode cX8_game 77 = .ok (.ifCond .ne 8, 3) := by decide +kernel
theorem dX8_game_80 : decode cX8_game 80 = .ok (.iload 4, 2) := by decide +kernel
theorem dX8_game_82 : decode cX8_game 82 = .ok (.goto 5, 3) := by decide +kernel
theorem dX8_game_85 : decode cX8_game 85 = .ok (.iload 5, 2) := by decide +kernel
theorem dX8_game_87 : decode cX8_game 87 = .ok (.ireturn, 1) := by decide +kernel
theorem dX8_game_88 : decode cX8_game 88 = .ok (.iinc 4 1, 3) := by decide +kernel
theorem dX8_game_91 : decode cX8_game 91 = .ok (.goto (-60), 3) := by decide +kernel
theorem dX8_game_94 : decode cX8_game 94 = .ok (.iconst (-1), 1) := by decide +kernel
theorem dX8_game_95 : decode cX8_game 95 = .ok (.ireturn, 1) := by decide +kernel
theorem dX8_table_0 : decode cX8_table 0 = .ok (.iload_n 1, 1) := by decide +kernel
theorem dX8_table_1 : decode cX8_table 1 = .ok (.iconst 0, 1) := by decide +kernel
theorem dX8_table_2 : decode cX8_table 2 = .ok (.iconst 3, 1) := by decide +kernel
theorem dX8_table_3 : decode cX8_table 3 = .ok (.invokestatic 81, 3) := by decide +kernel
theorem dX8_table_6 : decode cX8_table 6 = .ok (.ifCond .eq 23, 3) := by decide +kernel
theorem dX8_table_9 : decode cX8_table 9 = .ok (.iload_n 2, 1) := by decide +kernel
theorem dX8_table_10 : decode cX8_table 10 = .ok (.iconst 0, 1) := by decide +kernel
theorem dX8_table_11 : decode cX8_table 11 = .ok (.bipush 99, 2) := by decide +kernel
theorem dX8_table_13 : decode cX8_table 13 = .ok (.invokestatic 81, 3) := by decide +kernel
theorem dX8_table_16 : decode cX8_table 16 = .ok (.ifCond .eq 13, 3) := by decide +kernel
theorem dX8_table_19 : decode cX8_table 19 = .ok (.iload_n 3, 1) := by decide +kernel
theorem dX8_table_20 : decode cX8_table 20 = .ok (.iconst 0, 1) := by decide +kernel
theorem dX8_table_21 : decode cX8_table 21 = .ok (.bipush 99, 2) := by decide +kernel
theorem dX8_table_23 : decode cX8_table 23 = .ok (.invokestatic 81, 3) := by decide +kernel
theorem dX8_table_26 : decode cX8_table 26 = .ok (.ifCond .ne 5, 3) := by decide +kernel
theorem dX8_table_29 : decode cX8_table 29 = .ok (.iconst 0, 1) := by decide +kernel
theorem dX8_table_30 : decode cX8_table 30 = .ok (.ireturn, 1) := by decide +kernel
theorem dX8_table_31 : decode cX8_table 31 = .ok (.aload_n 0, 1) := by decide +kernel
theorem dX8_table_32 : decode cX8_table 32 = .ok (.getfield 12, 3) := by decide +kernel
theorem dX8_table_35 : decode cX8_table 35 = .ok (.getfield 306, 3) := by decide +kernel
theorem dX8_table_38 : decode cX8_table 38 = .ok (.iload_n 1, 1) := by decide +kernel
theorem dX8_table_39 : decode cX8_table 39 = .ok (.iload_n 2, 1) := by decide +kernel
theorem dX8_table_40 : decode cX8_table 40 = .ok (.iastore, 1) := by decide +kernel
theorem dX8_table_41 : decode cX8_table 41 = .ok (.aload_n 0, 1) := by decide +kernel
theorem dX8_table_42 : decode cX8_table 42 = .ok (.getfield 12, 3) := by decide +kernel
theorem dX8_table_45 : decode cX8_table 45 = .ok (.getfield 306, 3) := by decide +kernel
theorem dX8_table_48 : decode cX8_table 48 = .ok (.iload_n 1, 1) := by decide +kernel
theorem dX8_table_49 : decode cX8_table 49 = .ok (.iconst 4, 1) := by decide +kernel
theorem dX8_table_50 : decode cX8_table 50 = .ok (.iadd, 1) := by decide +kernel
theorem dX8_table_51 : decode cX8_table 51 = .ok (.iload_n 3, 1) := by decide +kernel
theorem dX8_table_52 : decode cX8_table 52 = .ok (.iastore, 1) := by decide +kernel
theorem dX8_table_53 : decode cX8_table 53 = .ok (.iconst 1, 1) := by decide +kernel
theorem dX8_table_54 : decode cX8_table 54 = .ok (.ireturn, 1) := by decide +kernel
theorem dX8_rests_0 : decode cX8_rests 0 = .ok (.iconst 0, 1) := by decide +kernel
theorem dX8_rests_1 : decode cX8_rests 1 = .ok (.istore_n 1, 1) := by decide +kernel
theorem dX8_rests_2 : decode cX8_rests 2 = .ok (.iconst 0, 1) := by decide +kernel
theorem dX8_rests_3 : decode cX8_rests 3 = .ok (.istore_n 2, 1) := by decide +kernel
theorem dX8_rests_4 : decode cX8_rests 4 = .ok (.iload_n 2, 1) := by decide +kernel
theorem dX8_rests_5 : decode cX8_rests 5 = .ok (.iconst 4, 1) := by decide +kernel
theorem dX8_rests_6 : decode cX8_rests 6 = .ok (.if_icmp .ge 87, 3) := by decide +kernel
theorem dX8_rests_9 : decode cX8_rests 9 = .ok (.aload_n 0, 1) := by decide +kernel
theorem dX8_rests_10 : decode cX8_rests 10 = .ok (.getfield 12, 3) := by decide +kernel
theorem dX8_rests_13 : decode cX8_rests 13 = .ok (.getfield 306, 3) := by decide +kernel
theorem dX8_rests_16 : decode cX8_rests 16 = .ok (.iload_n 2, 1) := by decide +kernel
theorem dX8_rests_17 : decode cX8_rests 17 = .ok (.iconst 2, 1) := by decide +kernel
theorem dX8_rests_18 : decode cX8_rests 18 = .ok (.ixor, 1) := by decide +kernel
theorem dX8_rests_19 : decode cX8_rests 19 = .ok (.iaload, 1) := by decide +kernel
theorem dX8_rests_20 : decode cX8_rests 20 = .ok (.aload_n 0, 1) := by decide +kernel
theorem dX8_rests_21 : decode cX8_rests 21 = .ok (.getfield 12, 3) := by decide +kernel
theorem dX8_rests_24 : decode cX8_rests 24 = .ok (.getfield 306, 3) := by decide +kernel
theorem dX8_rests_27 : decode cX8_rests 27 = .ok (.iload_n 2, 1) := by decide +kernel
theorem dX8_rests_28 : decode cX8_rests 28 = .ok (.iaload, 1) := by decide +kernel
theorem dX8_rests_29 : decode cX8_rests 29 = .ok (.if_icmp .lt 7, 3) := by decide +kernel
theorem dX8_rests_32 : decode cX8_rests 32 = .ok (.iconst 1, 1) := by decide +kernel
theorem dX8_rests_33 : decode cX8_rests 33 = .ok (.goto 4, 3) := by decide +kernel
theorem dX8_rests_36 : decode cX8_rests 36 = .ok (.iconst 0, 1) := by decide +kernel
theorem dX8_rests_37 : decode cX8_rests 37 = .ok (.istore_n 3, 1) := by decide +kernel
theorem dX8_rests_38 : decode cX8_rests 38 = .ok (.aload_n 0, 1) := by decide +kernel
theorem dX8_rests_39 : decode cX8_rests 39 = .ok (.getfield 12, 3) := by decide +kernel
theorem dX8_rests_42 : decode cX8_rests 42 = .ok (.getfield 306, 3) := by decide +kernel
theorem dX8_rests_45 : decode cX8_rests 45 = .ok (.iconst 4, 1) := by decide +kernel
theorem dX8_rests_46 : decode cX8_rests 46 = .ok (.iload_n 2, 1) := by decide +kernel
theorem dX8_rests_47 : decode cX8_rests 47 = .ok (.iconst 1, 1) := by decide +kernel
theorem dX8_rests_48 : decode cX8_rests 48 = .ok (.ixor, 1) := by decide +kernel
theorem dX8_rests_49 : decode cX8_rests 49 = .ok (.iadd, 1) := by decide +kernel
theorem dX8_rests_50 : decode cX8_rests 50 = .ok (.iaload, 1) := by decide +kernel
theorem dX8_rests_51 : decode cX8_rests 51 = .ok (.aload_n 0, 1) := by decide +kernel
theorem dX8_rests_52 : decode cX8_rests 52 = .ok (.getfield 12, 3) := by decide +kernel
theorem dX8_rests_55 : decode cX8_rests 55 = .ok (.getfield 306, 3) := by decide +kernel
theorem dX8_rests_58 : decode cX8_rests 58 = .ok (.iconst 4, 1) := by decide +kernel
theorem dX8_rests_59 : decode cX8_rests 59 = .ok (.iload_n 2, 1) := by decide +kernel
theorem dX8_rests_60 : decode cX8_rests 60 = .ok (.iadd, 1) := by decide +kernel
theorem dX8_rests_61 : decode cX8_rests 61 = .ok (.iaload, 1) := by decide +kernel
theorem dX8_rests_62 : decode cX8_rests 62 = .ok (.if_icmp .lt 7, 3) := by decide +kernel
theorem dX8_rests_65 : decode cX8_rests 65 = .ok (.iconst 1, 1) := by decide +kernel
theorem dX8_rests_66 : decode cX8_rests 66 = .ok (.goto 4, 3) := by decide +kernel
theorem dX8_rests_69 : decode cX8_rests 69 = .ok (.iconst 0, 1) := by decide +kernel
theorem dX8_rests_70 : decode cX8_rests 70 = .ok (.istore 4, 2) := by decide +kernel
theorem dX8_rests_72 : decode cX8_rests 72 = .ok (.iload_n 3, 1) := by decide +kernel
theorem dX8_rests_73 : decode cX8_rests 73 = .ok (.ifCond .eq 14, 3) := by decide +kernel
theorem dX8_rests_76 : decode cX8_rests 76 = .ok (.iload 4, 2) := by decide +kernel
theorem dX8_rests_78 : decode cX8_rests 78 = .ok (.ifCond .eq 9, 3) := by decide +kernel
theorem dX8_rests_81 : decode cX8_rests 81 = .ok (.iload_n 1, 1) := by decide +kernel
theorem dX8_rests_82 : decode cX8_rests 82 = .ok (.iconst 1, 1) := by decide +kernel
theorem dX8_rests_83 : decode cX8_rests 83 = .ok (.iload_n 2, 1) := by decide +kernel
theorem dX8_rests_84 : decode cX8_rests 84 = .ok (.ishl, 1) := by decide +kernel
theorem dX8_rests_85 : decode cX8_rests 85 = .ok (.ior, 1) := by decide +kernel
theorem dX8_rests_86 : decode cX8_rests 86 = .ok (.istore_n 1, 1) := by decide +kernel
theorem dX8_rests_87 : decode cX8_rests 87 = .ok (.iinc 2 1, 3) := by decide +kernel
theorem dX8_rests_90 : decode cX8_rests 90 = .ok (.goto (-86), 3) := by decide +kernel
theorem dX8_rests_93 : decode cX8_rests 93 = .ok (.iload_n 1, 1) := by decide +kernel
theorem dX8_rests_94 : decode cX8_rests 94 = .ok (.ireturn, 1) := by decide +kernel
theorem dX8_deletes_0 : decode cX8_deletes 0 = .ok (.iload_n 1, 1) := by decide +kernel
theorem dX8_deletes_1 : decode cX8_deletes 1 = .ok (.invokestatic 85, 3) := by decide +kernel
theorem dX8_deletes_4 : decode cX8_deletes 4 = .ok (.ifCond .eq 23, 3) := by decide +kernel
theorem dX8_deletes_7 : decode cX8_deletes 7 = .ok (.iload_n 2, 1) := by decide +kernel
theorem dX8_deletes_8 : decode cX8_deletes 8 = .ok (.iconst 1, 1) := by decide +kernel
theorem dX8_deletes_9 : decode cX8_deletes 9 = .ok (.sipush 300, 3) := by decide +kernel
theorem dX8_deletes_12 : decode cX8_deletes 12 = .ok (.invokestatic 81, 3) := by decide +kernel
theorem dX8_deletes_15 : decode cX8_deletes 15 = .ok (.ifCond .eq 12, 3) := by decide +kernel
theorem dX8_deletes_18 : decode cX8_deletes 18 = .ok (.iload_n 3, 1) := by decide +kernel
theorem dX8_deletes_19 : decode cX8_deletes 19 = .ok (.iconst 0, 1) := by decide +kernel
theorem dX8_deletes_20 : decode cX8_deletes 20 = .ok (.iconst 1, 1) := by decide +kernel
theorem dX8_deletes_21 : decode cX8_deletes 21 = .ok (.invokestatic 81, 3) := by decide +kernel
theorem dX8_deletes_24 : decode cX8_deletes 24 = .ok (.ifCond .ne 5, 3) := by decide +kernel
theorem dX8_deletes_27 : decode cX8_deletes 27 = .ok (.iconst (-1), 1) := by decide +kernel
theorem dX8_deletes_28 : decode cX8_deletes 28 = .ok (.ireturn, 1) := by decide +kernel
theorem dX8_deletes_29 : decode cX8_deletes 29 = .ok (.iconst 1, 1) := by decide +kernel
theorem dX8_deletes_30 : decode cX8_deletes 30 = .ok (.iconst 4, 1) := by decide +kernel
theorem dX8_deletes_31 : decode cX8_deletes 31 = .ok (.aload_n 0, 1) := by decide +kernel
theorem dX8_deletes_32 : decode cX8_deletes 32 = .ok (.getfield 12, 3) := by decide +kernel
theorem dX8_deletes_35 : decode cX8_deletes 35 = .ok (.getfield 71, 3) := by decide +kernel
theorem dX8_deletes_38 : decode cX8_deletes 38 = .ok (.iload_n 1, 1) := by decide +kernel
theorem dX8_deletes_39 : decode cX8_deletes 39 = .ok (.invokevirtual 309, 3) := by decide +kernel
theorem dX8_deletes_42 : decode cX8_deletes 42 = .ok (.invokestatic 141, 3) := by decide +kernel
theorem dX8_deletes_45 : decode cX8_deletes 45 = .ok (.ishl, 1) := by decide +kernel
theorem dX8_deletes_46 : decode cX8_deletes 46 = .ok (.istore 4, 2) := by decide +kernel
theorem dX8_deletes_48 : decode cX8_deletes 48 = .ok (.sipush 1000, 3) := by decide +kernel
theorem dX8_deletes_51 : decode cX8_deletes 51 = .ok (.istore 5, 2) := by decide +kernel
theorem dX8_deletes_53 : decode cX8_deletes 53 = .ok (.iconst 0, 1) := by decide +kernel
theorem dX8_deletes_54 : decode cX8_deletes 54 = .ok (.istore 6, 2) := by decide +kernel
theorem dX8_deletes_56 : decode cX8_deletes 56 = .ok (.iconst 0, 1) := by decide +kernel
theorem dX8_deletes_57 : decode cX8_deletes 57 = .ok (.istore 7, 2) := by decide +kernel
theorem dX8_deletes_59 : decode cX8_deletes 59 = .ok (.iload 7, 2) := by decide +kernel
theorem dX8_deletes_61 : decode cX8_deletes 61 = .ok (.iload 4, 2) := by decide +kernel
theorem dX8_deletes_63 : decode cX8_deletes 63 = .ok (.if_icmp .ge 91, 3) := by decide +kernel
theorem dX8_deletes_66 : decode cX8_deletes 66 = .ok (.aload_n 0, 1) := by decide +kernel
theorem dX8_deletes_67 : decode cX8_deletes 67 = .ok (.invokevirtual 242, 3) := by decide +kernel
theorem dX8_deletes_70 : decode cX8_deletes 70 = .ok (.aload_n 0, 1) := by decide +kernel
theorem dX8_deletes_71 : decode cX8_deletes 71 = .ok (.getfield 45, 3) := by decide +kernel
theorem dX8_deletes_74 : decode cX8_deletes 74 = .ok (.iload_n 1, 1) := by decide +kernel
theorem dX8_deletes_75 : decode cX8_deletes 75 = .ok (.iload 7, 2) := by decide +kernel
theorem dX8_deletes_77 : decode cX8_deletes 77 = .ok (.invokevirtual 312, 3) := by decide +kernel
theorem dX8_deletes_80 : decode cX8_deletes 80 = .ok (.aload_n 0, 1) := by decide +kernel
theorem dX8_deletes_81 : decode cX8_deletes 81 = .ok (.getfield 45, 3) := by decide +kernel
theorem dX8_deletes_84 : decode cX8_deletes 84 = .ok (.iload_n 2, 1) := by decide +kernel
theorem dX8_deletes_85 : decode cX8_deletes 85 = .ok (.invokevirtual 147, 3) := by decide +kernel
theorem dX8_deletes_88 : decode cX8_deletes 88 = .ok (.aload_n 0, 1) := by decide +kernel
theorem dX8_deletes_89 : decode cX8_deletes 89 = .ok (.getfield 52, 3) := by decide +kernel
theorem dX8_deletes_92 : decode cX8_deletes 92 = .ok (.getfield 95, 3) := by decide +kernel
theorem dX8_deletes_95 : decode cX8_deletes 95 = .ok (.iconst 1, 1) := by decide +kernel
theorem dX8_deletes_96 : decode cX8_deletes 96 = .ok (.iload_n 1, 1) := by decide +kernel
theorem dX8_deletes_97 : decode cX8_deletes 97 = .ok (.isub, 1) := by decide +kernel
theorem dX8_deletes_98 : decode cX8_deletes 98 = .ok (.iaload, 1) := by decide +kernel
theorem dX8_deletes_99 : decode cX8_deletes 99 = .ok (.istore 8, 2) := by decide +kernel
theorem dX8_deletes_101 : decode cX8_deletes 101 = .ok (.iload 7, 2) := by decide +kernel
theorem dX8_deletes_103 : decode cX8_deletes 103 = .ok (.invokestatic 316, 3) := by decide +kernel
theorem dX8_deletes_106 : decode cX8_deletes 106 = .ok (.iload 6, 2) := by decide +kernel
theorem dX8_deletes_108 : decode cX8_deletes 108 = .ok (.invokestatic 316, 3) := by decide +kernel
theorem dX8_deletes_111 : decode cX8_deletes 111 = .ok (.if_icmp .ge 7, 3) := by decide +kernel
theorem dX8_deletes_114 : decode cX8_deletes 114 = .ok (.iconst 1, 1) := by decide +kernel
theorem dX8_deletes_115 : decode cX8_deletes 115 = .ok (.goto 4, 3) := by decide +kernel
theorem dX8_deletes_118 : decode cX8_deletes 118 = .ok (.iconst 0, 1) := by decide +kernel
theorem dX8_deletes_119 : decode cX8_deletes 119 = .ok (.istore 9, 2) := by decide +kernel
theorem dX8_deletes_121 : decode cX8_deletes 121 = .ok (.iload 8, 2) := by decide +kernel
theorem dX8_deletes_123 : decode cX8_deletes 123 = .ok (.iload 5, 2) := by decide +kernel
theorem dX8_deletes_125 : decode cX8_deletes 125 = .ok (.if_icmp .lt 15, 3) := by decide +kernel
theorem dX8_deletes_128 : decode cX8_deletes 128 = .ok (.iload 8, 2) := by decide +kernel
theorem dX8_deletes_130 : decode cX8_deletes 130 = .ok (.iload 5, 2) := by decide +kernel
theorem dX8_deletes_132 : decode cX8_deletes 132 = .ok (.if_icmp .ne 16, 3) := by decide +kernel
theorem dX8_deletes_135 : decode cX8_deletes 135 = .ok (.iload 9, 2) := by decide +kernel
theorem dX8_deletes_137 : decode cX8_deletes 137 = .ok (.ifCond .eq 11, 3) := by decide +kernel
theorem dX8_deletes_140 : decode cX8_deletes 140 = .ok (.iload 8, 2) := by decide +kernel
theorem dX8_deletes_142 : decode cX8_deletes 142 = .ok (.istore 5, 2) := by decide +kernel
theorem dX8_deletes_144 : decode cX8_deletes 144 = .ok (.iload 7, 2) := by decide +kernel
theorem dX8_deletes_146 : decode cX8_deletes 146 = .ok (.istore 6, 2) := by decide +kernel
theorem dX8_deletes_148 : decode cX8_deletes 148 = .ok (.iinc 7 1, 3) := by decide +kernel
theorem dX8_deletes_151 : decode cX8_deletes 151 = .ok (.goto (-92), 3) := by decide +kernel
theorem dX8_deletes_154 : decode cX8_deletes 154 = .ok (.iload_n 3, 1) := by decide +kernel
theorem dX8_deletes_155 : decode cX8_deletes 155 = .ok (.ifCond .ne 8, 3) := by decide +kernel
theorem dX8_deletes_158 : decode cX8_deletes 158 = .ok (.iload 5, 2) := by decide +kernel
theorem dX8_deletes_160 : decode cX8_deletes 160 = .ok (.goto 5, 3) := by decide +kernel
theorem dX8_deletes_163 : decode cX8_deletes 163 = .ok (.iload 6, 2) := by decide +kernel
theorem dX8_deletes_165 : decode cX8_deletes 165 = .ok (.ireturn, 1) := by decide +kernel
theorem dX8_thread_0 : decode cX8_thread 0 = .ok (.iload_n 1, 1) := by decide +kernel
theorem dX8_thread_1 : decode cX8_thread 1 = .ok (.iconst 0, 1) := by decide +kernel
theorem dX8_thread_2 : decode cX8_thread 2 = .ok (.iconst 1, 1) := by decide +kernel
theorem dX8_thread_3 : decode cX8_thread 3 = .ok (.invokestatic 81, 3) := by decide +kernel
theorem dX8_thread_6 : decode cX8_thread 6 = .ok (.ifCond .ne 5, 3) := by decide +kernel
theorem dX8_thread_9 : decode cX8_thread 9 = .ok (.iconst (-1), 1) := by decide +kernel
theorem dX8_thread_10 : decode cX8_thread 10 = .ok (.ireturn, 1) := by decide +kernel
theorem dX8_thread_11 : decode cX8_thread 11 = .ok (.aload_n 0, 1) := by decide +kernel
theorem dX8_thread_12 : decode cX8_thread 12 = .ok (.getfield 59, 3) := by decide +kernel
theorem dX8_thread_15 : decode cX8_thread 15 = .ok (.aload_n 0, 1) := by decide +kernel
theorem dX8_thread_16 : decode cX8_thread 16 = .ok (.getfield 12, 3) := by decide +kernel
theorem dX8_thread_19 : decode cX8_thread 19 = .ok (.getfield 71, 3) := by decide +kernel
theorem dX8_thread_22 : decode cX8_thread 22 = .ok (.invokevirtual 321, 3) := by decide +kernel
theorem dX8_thread_25 : decode cX8_thread 25 = .ok (.istore_n 2, 1) := by decide +kernel
theorem dX8_thread_26 : decode cX8_thread 26 = .ok (.iload_n 1, 1) := by decide +kernel
theorem dX8_thread_27 : decode cX8_thread 27 = .ok (.iconst 1, 1) := by decide +kernel
theorem dX8_thread_28 : decode cX8_thread 28 = .ok (.if_icmp .eq 8, 3) := by decide +kernel
theorem dX8_thread_31 : decode cX8_thread 31 = .ok (.iload_n 2, 1) := by decide +kernel
theorem dX8_thread_32 : decode cX8_thread 32 = .ok (.iconst (-1), 1) := by decide +kernel
theorem dX8_thread_33 : decode cX8_thread 33 = .ok (.if_icmp .ne 7, 3) := by decide +kernel
theorem dX8_thread_36 : decode cX8_thread 36 = .ok (.iload_n 2, 1) := by decide +kernel
theorem dX8_thread_37 : decode cX8_thread 37 = .ok (.goto 12, 3) := by decide +kernel
theorem dX8_thread_40 : decode cX8_thread 40 = .ok (.aload_n 0, 1) := by decide +kernel
theorem dX8_thread_41 : decode cX8_thread 41 = .ok (.getfield 59, 3) := by decide +kernel
theorem dX8_thread_44 : decode cX8_thread 44 = .ok (.getfield 324, 3) := by decide +kernel
theorem dX8_thread_47 : decode cX8_thread 47 = .ok (.iload_n 2, 1) := by decide +kernel
theorem dX8_thread_48 : decode cX8_thread 48 = .ok (.iaload, 1) := by decide +kernel
theorem dX8_thread_49 : decode cX8_thread 49 = .ok (.ireturn, 1) := by decide +kernel
theorem dX8_crossed_0 : decode cX8_crossed 0 = .ok (.aload_n 0, 1) := by decide +kernel
theorem dX8_crossed_1 : decode cX8_crossed 1 = .ok (.getfield 59, 3) := by decide +kernel
theorem dX8_crossed_4 : decode cX8_crossed 4 = .ok (.aload_n 0, 1) := by decide +kernel
theorem dX8_crossed_5 : decode cX8_crossed 5 = .ok (.getfield 12, 3) := by decide +kernel
theorem dX8_crossed_8 : decode cX8_crossed 8 = .ok (.getfield 71, 3) := by decide +kernel
theorem dX8_crossed_11 : decode cX8_crossed 11 = .ok (.invokevirtual 327, 3) := by decide +kernel
theorem dX8_crossed_14 : decode cX8_crossed 14 = .ok (.ireturn, 1) := by decide +kernel
theorem dX8_awake_0 : decode cX8_awake 0 = .ok (.iload_n 1, 1) := by decide +kernel
theorem dX8_awake_1 : decode cX8_awake 1 = .ok (.iconst 1, 1) := by decide +kernel
theorem dX8_awake_2 : decode cX8_awake 2 = .ok (.bipush 48, 2) := by decide +kernel
theorem dX8_awake_4 : decode cX8_awake 4 = .ok (.invokestatic 81, 3) := by decide +kernel
theorem dX8_awake_7 : decode cX8_awake 7 = .ok (.ifCond .eq 12, 3) := by decide +kernel
theorem dX8_awake_10 : decode cX8_awake 10 = .ok (.iload_n 2, 1) := by decide +kernel
theorem dX8_awake_11 : decode cX8_awake 11 = .ok (.iconst 0, 1) := by decide +kernel
theorem dX8_awake_12 : decode cX8_awake 12 = .ok (.iconst 2, 1) := by decide +kernel
theorem dX8_awake_13 : decode cX8_awake 13 = .ok (.invokestatic 81, 3) := by decide +kernel
theorem dX8_awake_16 : decode cX8_awake 16 = .ok (.ifCond .ne 5, 3) := by decide +kernel
theorem dX8_awake_19 : decode cX8_awake 19 = .ok (.iconst (-1), 1) := by decide +kernel
theorem dX8_awake_20 : decode cX8_awake 20 = .ok (.ireturn, 1) := by decide +kernel
theorem dX8_awake_21 : decode cX8_awake 21 = .ok (.iconst 0, 1) := by decide +kernel
theorem dX8_awake_22 : decode cX8_awake 22 = .ok (.istore_n 3, 1) := by decide +kernel
theorem dX8_awake_23 : decode cX8_awake 23 = .ok (.iconst (-1), 1) := by decide +kernel
theorem dX8_awake_24 : decode cX8_awake 24 = .ok (.istore 4, 2) := by decide +kernel
theorem dX8_awake_26 : decode cX8_awake 26 = .ok (.iconst 0, 1) := by decide +kernel
theorem dX8_awake_27 : decode cX8_awake 27 = .ok (.istore 5, 2) := by decide +kernel
theorem dX8_awake_29 : decode cX8_awake 29 = .ok (.iconst 0, 1) := by decide +kernel
theorem dX8_awake_30 : decode cX8_awake 30 = .ok (.istore 6, 2) := by decide +kernel
theorem dX8_awake_32 : decode cX8_awake 32 = .ok (.iconst 0, 1) := by decide +kernel
theorem dX8_awake_33 : decode cX8_awake 33 = .ok (.istore 7, 2) := by decide +kernel
theorem dX8_awake_35 : decode cX8_awake 35 = .ok (.iload 7, 2) := by decide +kernel
theorem dX8_awake_37 : decode cX8_awake 37 = .ok (.iload_n 1, 1) := by decide +kernel
theorem dX8_awake_38 : decode cX8_awake 38 = .ok (.if_icmp .ge 117, 3) := by decide +kernel
theorem dX8_awake_41 : decode cX8_awake 41 = .ok (.aload_n 0, 1) := by decide +kernel
theorem dX8_awake_42 : decode cX8_awake 42 = .ok (.getfield 12, 3) := by decide +kernel
theorem dX8_awake_45 : decode cX8_awake 45 = .ok (.getfield 71, 3) := by decide +kernel
theorem dX8_awake_48 : decode cX8_awake 48 = .ok (.invokevirtual 191, 3) := by decide +kernel
theorem dX8_awake_51 : decode cX8_awake 51 = .ok (.iload 7, 2) := by decide +kernel
theorem dX8_awake_53 : decode cX8_awake 53 = .ok (.iadd, 1) := by decide +kernel
theorem dX8_awake_54 : decode cX8_awake 54 = .ok (.bipush 24, 2) := by decide +kernel
theorem dX8_awake_56 : decode cX8_awake 56 = .ok (.irem, 1) := by decide +kernel
theorem dX8_awake_57 : decode cX8_awake 57 = .ok (.istore 8, 2) := by decide +kernel
theorem dX8_awake_59 : decode cX8_awake 59 = .ok (.aload_n 0, 1) := by decide +kernel
theorem dX8_awake_60 : decode cX8_awake 60 = .ok (.getfield 12, 3) := by decide +kernel
theorem dX8_awake_63 : decode cX8_awake 63 = .ok (.iconst 0, 1) := by decide +kernel
theorem dX8_awake_64 : decode cX8_awake 64 = .ok (.iload 8, 2) := by decide +kernel
theorem dX8_awake_66 : decode cX8_awake 66 = .ok (.invokevirtual 330, 3) := by decide +kernel
theorem dX8_awake_69 : decode cX8_awake 69 = .ok (.ifCond .eq 20, 3) := by decide +kernel
theorem dX8_awake_72 : decode cX8_awake 72 = .ok (.aload_n 0, 1) := by decide +kernel
theorem dX8_awake_73 : decode cX8_awake 73 = .ok (.getfield 12, 3) := by decide +kernel
theorem dX8_awake_76 : decode cX8_awake 76 = .ok (.iconst 1, 1) := by decide +kernel
theorem dX8_awake_77 : decode cX8_awake 77 = .ok (.iload 8, 2) := by decide +kernel
theorem dX8_awake_79 : decode cX8_awake 79 = .ok (.invokevirtual 330, 3) := by decide +kernel
theorem dX8_awake_82 : decode cX8_awake 82 = .ok (.ifCond .eq 7, 3) := by decide +kernel
theorem dX8_awake_85 : decode cX8_awake 85 = .ok (.iconst 1, 1) := by decide +kernel
theorem dX8_awake_86 : decode cX8_awake 86 = .ok (.goto 4, 3) := by decide +kernel
theorem dX8_awake_89 : decode cX8_awake 89 = .ok (.iconst 0, 1) := by decide +kernel
theorem dX8_awake_90 : decode cX8_awake 90 = .ok (.istore 9, 2) := by decide +kernel
theorem dX8_awake_92 : decode cX8_awake 92 = .ok (.iload 9, 2) := by decide +kernel
theorem dX8_awake_94 : decode cX8_awake 94 = .ok (.ifCond .eq 10, 3) := by decide +kernel
theorem dX8_awake_97 : decode cX8_awake 97 = .ok (.iload 5, 2) := by decide +kernel
theorem dX8_awake_99 : decode cX8_awake 99 = .ok (.iconst 1, 1) := by decide +kernel
theorem dX8_awake_100 : decode cX8_awake 100 = .ok (.iadd, 1) := by decide +kernel
theorem dX8_awake_101 : decode cX8_awake 101 = .ok (.goto 4, 3) := by decide +kernel
theorem dX8_awake_104 : decode cX8_awake 104 = .ok (.iconst 0, 1) := by decide +kernel
theorem dX8_awake_105 : decode cX8_awake 105 = .ok (.istore 5, 2) := by decide +kernel
theorem dX8_awake_107 : decode cX8_awake 107 = .ok (.iload_n 3, 1) := by decide +kernel
theorem dX8_awake_108 : decode cX8_awake 108 = .ok (.iload 9, 2) := by decide +kernel
theorem dX8_awake_110 : decode cX8_awake 110 = .ok (.ifCond .eq 7, 3) := by decide +kernel
theorem dX8_awake_113 : decode cX8_awake 113 = .ok (.iconst 1, 1) := by decide +kernel
theorem dX8_awake_114 : decode cX8_awake 114 = .ok (.goto 4, 3) := by decide +kernel
theorem dX8_awake_117 : decode cX8_awake 117 = .ok (.iconst 0, 1) := by decide +kernel
theorem dX8_awake_118 : decode cX8_awake 118 = .ok (.iadd, 1) := by decide +kernel
theorem dX8_awake_119 : decode cX8_awake 119 = .ok (.istore_n 3, 1) := by decide +kernel
theorem dX8_awake_120 : decode cX8_awake 120 = .ok (.iload 9, 2) := by decide +kernel
theorem dX8_awake_122 : decode cX8_awake 122 = .ok (.ifCond .eq 14, 3) := by decide +kernel
theorem dX8_awake_125 : decode cX8_awake 125 = .ok (.iload 4, 2) := by decide +kernel
theorem dX8_awake_127 : decode cX8_awake 127 = .ok (.iconst (-1), 1) := by decide +kernel
theorem dX8_awake_128 : decode cX8_awake 128 = .ok (.if_icmp .ne 8, 3) := by decide +kernel
theorem dX8_awake_131 : decode cX8_awake 131 = .ok (.iload 7, 2) := by decide +kernel
theorem dX8_awake_133 : decode cX8_awake 133 = .ok (.goto 5, 3) := by decide +kernel
theorem dX8_awake_136 : decode cX8_awake 136 = .ok (.iload 4, 2) := by decide +kernel
theorem dX8_awake_138 : decode cX8_awake 138 = .ok (.istore 4, 2) := by decide +kernel
theorem dX8_awake_140 : decode cX8_awake 140 = .ok (.iload 6, 2) := by decide +kernel
theorem dX8_awake_142 : decode cX8_awake 142 = .ok (.iload 5, 2) := by decide +kernel
theorem dX8_awake_144 : decode cX8_awake 144 = .ok (.invokestatic 251, 3) := by decide +kernel
theorem dX8_awake_147 : decode cX8_awake 147 = .ok (.istore 6, 2) := by decide +kernel
theorem dX8_awake_149 : decode cX8_awake 149 = .ok (.iinc 7 1, 3) := by decide +kernel
theorem dX8_awake_152 : decode cX8_awake 152 = .ok (.goto (-117), 3) := by decide +kernel
theorem dX8_awake_155 : decode cX8_awake 155 = .ok (.iload_n 2, 1) := by decide +kernel
theorem dX8_awake_156 : decode cX8_awake 156 = .ok (.ifCond .ne 5, 3) := by decide +kernel
theorem dX8_awake_159 : decode cX8_awake 159 = .ok (.iload_n 3, 1) := by decide +kernel
theorem dX8_awake_160 : decode cX8_awake 160 = .ok (.ireturn, 1) := by decide +kernel
theorem dX8_awake_161 : decode cX8_awake 161 = .ok (.iload_n 2, 1) := by decide +kernel
theorem dX8_awake_162 : decode cX8_awake 162 = .ok (.iconst 1, 1) := by decide +kernel
theorem dX8_awake_163 : decode cX8_awake 163 = .ok (.if_icmp .ne 8, 3) := by decide +kernel
theorem dX8_awake_166 : decode cX8_awake 166 = .ok (.iload 4, 2) := by decide +kernel
theorem dX8_awake_168 : decode cX8_awake 168 = .ok (.goto 5, 3) := by decide +kernel
theorem dX8_awake_171 : decode cX8_awake 171 = .ok (.iload 6, 2) := by decide +kernel
theorem dX8_awake_173 : decode cX8_awake 173 = .ok (.ireturn, 1) := by decide +kernel
theorem dX8_mirrors_0 : decode cX8_mirrors 0 = .ok (.iload_n 1, 1) := by decide +kernel
theorem dX8_mirrors_1 : decode cX8_mirrors 1 = .ok (.iconst 1, 1) := by decide +kernel
theorem dX8_mirrors_2 : decode cX8_mirrors 2 = .ok (.bipush 99, 2) := by decide +kernel
theorem dX8_mirrors_4 : decode cX8_mirrors 4 = .ok (.invokestatic 81, 3) := by decide +kernel
theorem dX8_mirrors_7 : decode cX8_mirrors 7 = .ok (.ifCond .eq 12, 3) := by decide +kernel
theorem dX8_mirrors_10 : decode cX8_mirrors 10 = .ok (.iload_n 2, 1) := by decide +kernel
theorem dX8_mirrors_11 : decode cX8_mirrors 11 = .ok (.iconst 0, 1) := by decide +kernel
theorem dX8_mirrors_12 : decode cX8_mirrors 12 = .ok (.iconst 1, 1) := by decide +kernel
theorem dX8_mirrors_13 : decode cX8_mirrors 13 = .ok (.invokestatic 81, 3) := by decide +kernel
theorem dX8_mirrors_16 : decode cX8_mirrors 16 = .ok (.ifCond .ne 5, 3) := by decide +kernel
theorem dX8_mirrors_19 : decode cX8_mirrors 19 = .ok (.iconst (-1), 1) := by decide +kernel
theorem dX8_mirrors_20 : decode cX8_mirrors 20 = .ok (.ireturn, 1) := by decide +kernel
theorem dX8_mirrors_21 : decode cX8_mirrors 21 = .ok (.iload_n 1, 1) := by decide +kernel
theorem dX8_mirrors_22 : decode cX8_mirrors 22 = .ok (.istore_n 3, 1) := by decide +kernel
theorem dX8_mirrors_23 : decode cX8_mirrors 23 = .ok (.iconst 1, 1) := by decide +kernel
theorem dX8_mirrors_24 : decode cX8_mirrors 24 = .ok (.istore 4, 2) := by decide +kernel
theorem dX8_mirrors_26 : decode cX8_mirrors 26 = .ok (.iload 4, 2) := by decide +kernel
theorem dX8_mirrors_28 : decode cX8_mirrors 28 = .ok (.bipush 60, 2) := by decide +kernel
theorem dX8_mirrors_30 : decode cX8_mirrors 30 = .ok (.if_icmp .gt 83, 3) := by decide +kernel
theorem dX8_mirrors_33 : decode cX8_mirrors 33 = .ok (.aload_n 0, 1) := by decide +kernel
theorem dX8_mirrors_34 : decode cX8_mirrors 34 = .ok (.getfield 36, 3) := by decide +kernel
theorem dX8_mirrors_37 : decode cX8_mirrors 37 = .ok (.aload_n 0, 1) := by decide +kernel
theorem dX8_mirrors_38 : decode cX8_mirrors 38 = .ok (.getfield 12, 3) := by decide +kernel
theorem dX8_mirrors_41 : decode cX8_mirrors 41 = .ok (.aload_n 0, 1) := by decide +kernel
theorem dX8_mirrors_42 : decode cX8_mirrors 42 = .ok (.getfield 12, 3) := by decide +kernel
theorem dX8_mirrors_45 : decode cX8_mirrors 45 = .ok (.getfield 71, 3) := by decide +kernel
theorem dX8_mirrors_48 : decode cX8_mirrors 48 = .ok (.iload 4, 2) := by decide +kernel
theorem dX8_mirrors_50 : decode cX8_mirrors 50 = .ok (.iconst 1, 1) := by decide +kernel
theorem dX8_mirrors_51 : decode cX8_mirrors 51 = .ok (.isub, 1) := by decide +kernel
theorem dX8_mirrors_52 : decode cX8_mirrors 52 = .ok (.iconst 2, 1) := by decide +kernel
theorem dX8_mirrors_53 : decode cX8_mirrors 53 = .ok (.irem, 1) := by decide +kernel
theorem dX8_mirrors_54 : decode cX8_mirrors 54 = .ok (.invokevirtual 224, 3) := by decide +kernel
theorem dX8_mirrors_57 : decode cX8_mirrors 57 = .ok (.aload_n 0, 1) := by decide +kernel
theorem dX8_mirrors_58 : decode cX8_mirrors 58 = .ok (.getfield 36, 3) := by decide +kernel
theorem dX8_mirrors_61 : decode cX8_mirrors 61 = .ok (.iload_n 3, 1) := by decide +kernel
theorem dX8_mirrors_62 : decode cX8_mirrors 62 = .ok (.iconst 0, 1) := by decide +kernel
theorem dX8_mirrors_63 : decode cX8_mirrors 63 = .ok (.iconst 0, 1) := by decide +kernel
theorem dX8_mirrors_64 : decode cX8_mirrors 64 = .ok (.invokevirtual 228, 3) := by decide +kernel
theorem dX8_mirrors_67 : decode cX8_mirrors 67 = .ok (.aload_n 0, 1) := by decide +kernel
theorem dX8_mirrors_68 : decode cX8_mirrors 68 = .ok (.getfield 36, 3) := by decide +kernel
theorem dX8_mirrors_71 : decode cX8_mirrors 71 = .ok (.aload_n 0, 1) := by decide +kernel
theorem dX8_mirrors_72 : decode cX8_mirrors 72 = .ok (.getfield 12, 3) := by decide +kernel
theorem dX8_mirrors_75 : decode cX8_mirrors 75 = .ok (.getfield 168, 3) := by decide +kernel
theorem dX8_mirrors_78 : decode cX8_mirrors 78 = .ok (.iconst 0, 1) := by decide +kernel
theorem dX8_mirrors_79 : decode cX8_mirrors 79 = .ok (.aaload, 1) := by decide +kernel
theorem dX8_mirrors_80 : decode cX8_mirrors 80 = .ok (.iconst 1, 1) := by decide +kernel
theorem dX8_mirrors_81 : decode cX8_mirrors 81 = .ok (.invokevirtual 232, 3) := by decide +kernel
theorem dX8_mirrors_84 : decode cX8_mirrors 84 = .ok (.istore 5, 2) := by decide +kernel
theorem dX8_mirrors_86 : decode cX8_mirrors 86 = .ok (.iload 5, 2) := by decide +kernel
theorem dX8_mirrors_88 : decode cX8_mirrors 88 = .ok (.iload_n 3, 1) := by decide +kernel
theorem dX8_mirrors_89 : decode cX8_mirrors 89 = .ok (.if_icmp .ne 15, 3) := by decide +kernel
theorem dX8_mirrors_92 : decode cX8_mirrors 92 = .ok (.iload_n 2, 1) := by decide +kernel
theorem dX8_mirrors_93 : decode cX8_mirrors 93 = .ok (.ifCond .ne 8, 3) := by decide +kernel
theorem dX8_mirrors_96 : decode cX8_mirrors 96 = .ok (.iload 4, 2) := by decide +kernel
theorem dX8_mirrors_98 : decode cX8_mirrors 98 = .ok (.goto 5, 3) := by decide +kernel
theorem dX8_mirrors_101 : decode cX8_mirrors 101 = .ok (.iload 5, 2) := by decide +kernel
theorem dX8_mirrors_103 : decode cX8_mirrors 103 = .ok (.ireturn, 1) := by decide +kernel
theorem dX8_mirrors_104 : decode cX8_mirrors 104 = .ok (.iload 5, 2) := by decide +kernel
theorem dX8_mirrors_106 : decode cX8_mirrors 106 = .ok (.istore_n 3, 1) := by decide +kernel
theorem dX8_mirrors_107 : decode cX8_mirrors 107 = .ok (.iinc 4 1, 3) := by decide +kernel
theorem dX8_mirrors_110 : decode cX8_mirrors 110 = .ok (.goto (-84), 3) := by decide +kernel
theorem dX8_mirrors_113 : decode cX8_mirrors 113 = .ok (.iload_n 2, 1) := by decide +kernel
theorem dX8_mirrors_114 : decode cX8_mirrors 114 = .ok (.ifCond .ne 7, 3) := by decide +kernel
theorem dX8_mirrors_117 : decode cX8_mirrors 117 = .ok (.iconst (-1), 1) := by decide +kernel
theorem dX8_mirrors_118 : decode cX8_mirrors 118 = .ok (.goto 4, 3) := by decide +kernel
theorem dX8_mirrors_121 : decode cX8_mirrors 121 = .ok (.iload_n 3, 1) := by decide +kernel
theorem dX8_mirrors_122 : decode cX8_mirrors 122 = .ok (.ireturn, 1) := by decide +kernel
theorem dX8_ease_0 : decode cX8_ease 0 = .ok (.iload_n 1, 1) := by decide +kernel
theorem dX8_ease_1 : decode cX8_ease 1 = .ok (.invokestatic 85, 3) := by decide +kernel
theorem dX8_ease_4 : decode cX8_ease 4 = .ok (.ifCond .eq 23, 3) := by decide +kernel
theorem dX8_ease_7 : decode cX8_ease 7 = .ok (.iload_n 2, 1) := by decide +kernel
theorem dX8_ease_8 : decode cX8_ease 8 = .ok (.iconst 1, 1) := by decide +kernel
theorem dX8_ease_9 : decode cX8_ease 9 = .ok (.sipush 300, 3) := by decide +kernel
theorem dX8_ease_12 : decode cX8_ease 12 = .ok (.invokestatic 81, 3) := by decide +kernel
theorem dX8_ease_15 : decode cX8_ease 15 = .ok (.ifCond .eq 12, 3) := by decide +kernel
theorem dX8_ease_18 : decode cX8_ease 18 = .ok (.iload_n 3, 1) := by decide +kernel
theorem dX8_ease_19 : decode cX8_ease 19 = .ok (.iconst 0, 1) := by decide +kernel
theorem dX8_ease_20 : decode cX8_ease 20 = .ok (.iconst 1, 1) := by decide +kernel
theorem dX8_ease_21 : decode cX8_ease 21 = .ok (.invokestatic 81, 3) := by decide +kernel
theorem dX8_ease_24 : decode cX8_ease 24 = .ok (.ifCond .ne 5, 3) := by decide +kernel
theorem dX8_ease_27 : decode cX8_ease 27 = .ok (.iconst (-1), 1) := by decide +kernel
theorem dX8_ease_28 : decode cX8_ease 28 = .ok (.ireturn, 1) := by decide +kernel
theorem dX8_ease_29 : decode cX8_ease 29 = .ok (.sipush 1000, 3) := by decide +kernel
theorem dX8_ease_32 : decode cX8_ease 32 = .ok (.istore 4, 2) := by decide +kernel
theorem dX8_ease_34 : decode cX8_ease 34 = .ok (.iconst (-1), 1) := by decide +kernel
theorem dX8_ease_35 : decode cX8_ease 35 = .ok (.istore 5, 2) := by decide +kernel
theorem dX8_ease_37 : decode cX8_ease 37 = .ok (.iconst 1, 1) := by decide +kernel
theorem dX8_ease_38 : decode cX8_ease 38 = .ok (.istore 6, 2) := by decide +kernel
theorem dX8_ease_40 : decode cX8_ease 40 = .ok (.iload 6, 2) := by decide +kernel
theorem dX8_ease_42 : decode cX8_ease 42 = .ok (.sipush 256, 3) := by decide +kernel
theorem dX8_ease_45 : decode cX8_ease 45 = .ok (.if_icmp .gt 59, 3) := by decide +kernel
theorem dX8_ease_48 : decode cX8_ease 48 = .ok (.aload_n 0, 1) := by decide +kernel
theorem dX8_ease_49 : decode cX8_ease 49 = .ok (.invokevirtual 242, 3) := by decide +kernel
theorem dX8_ease_52 : decode cX8_ease 52 = .ok (.aload_n 0, 1) := by decide +kernel
theorem dX8_ease_53 : decode cX8_ease 53 = .ok (.getfield 45, 3) := by decide +kernel
theorem dX8_ease_56 : decode cX8_ease 56 = .ok (.iload_n 1, 1) := by decide +kernel
theorem dX8_ease_57 : decode cX8_ease 57 = .ok (.iload 6, 2) := by decide +kernel
theorem dX8_ease_59 : decode cX8_ease 59 = .ok (.invokevirtual 333, 3) := by decide +kernel
theorem dX8_ease_62 : decode cX8_ease 62 = .ok (.aload_n 0, 1) := by decide +kernel
theorem dX8_ease_63 : decode cX8_ease 63 = .ok (.getfield 45, 3) := by decide +kernel
theorem dX8_ease_66 : decode cX8_ease 66 = .ok (.iload_n 2, 1) := by decide +kernel
theorem dX8_ease_67 : decode cX8_ease 67 = .ok (.invokevirtual 147, 3) := by decide +kernel
theorem dX8_ease_70 : decode cX8_ease 70 = .ok (.aload_n 0, 1) := by decide +kernel
theorem dX8_ease_71 : decode cX8_ease 71 = .ok (.getfield 52, 3) := by decide +kernel
theorem dX8_ease_74 : decode cX8_ease 74 = .ok (.invokevirtual 133, 3) := by decide +kernel
theorem dX8_ease_77 : decode cX8_ease 77 = .ok (.iload 4, 2) := by decide +kernel
theorem dX8_ease_79 : decode cX8_ease 79 = .ok (.if_icmp .ge 16, 3) := by decide +kernel
theorem dX8_ease_82 : decode cX8_ease 82 = .ok (.aload_n 0, 1) := by decide +kernel
theorem dX8_ease_83 : decode cX8_ease 83 = .ok (.getfield 52, 3) := by decide +kernel
theorem dX8_ease_86 : decode cX8_ease 86 = .ok (.invokevirtual 133, 3) := by decide +kernel
theorem dX8_ease_89 : decode cX8_ease 89 = .ok (.istore 4, 2) := by decide +kernel
theorem dX8_ease_91 : decode cX8_ease 91 = .ok (.iload 6, 2) := by decide +kernel
theorem dX8_ease_93 : decode cX8_ease 93 = .ok (.istore 5, 2) := by decide +kernel
theorem dX8_ease_95 : decode cX8_ease 95 = .ok (.iload 6, 2) := by decide +kernel
theorem dX8_ease_97 : decode cX8_ease 97 = .ok (.iconst 2, 1) := by decide +kernel
theorem dX8_ease_98 : decode cX8_ease 98 = .ok (.imul, 1) := by decide +kernel
theorem dX8_ease_99 : decode cX8_ease 99 = .ok (.istore 6, 2) := by decide +kernel
theorem dX8_ease_101 : decode cX8_ease 101 = .ok (.goto (-61), 3) := by decide +kernel
theorem dX8_ease_104 : decode cX8_ease 104 = .ok (.iload_n 3, 1) := by decide +kernel
theorem dX8_ease_105 : decode cX8_ease 105 = .ok (.ifCond .ne 8, 3) := by decide +kernel
theorem dX8_ease_108 : decode cX8_ease 108 = .ok (.iload 5, 2) := by decide +kernel
theorem dX8_ease_110 : decode cX8_ease 110 = .ok (.goto 5, 3) := by decide +kernel
theorem dX8_ease_113 : decode cX8_ease 113 = .ok (.iload 4, 2) := by decide +kernel
theorem dX8_ease_115 : decode cX8_ease 115 = .ok (.ireturn, 1) := by decide +kernel
theorem dX8_split_0 : decode cX8_split 0 = .ok (.iload_n 1, 1) := by decide +kernel
theorem dX8_split_1 : decode cX8_split 1 = .ok (.iconst 0, 1) := by decide +kernel
theorem dX8_split_2 : decode cX8_split 2 = .ok (.iconst 1, 1) := by decide +kernel
theorem dX8_split_3 : decode cX8_split 3 = .ok (.invokestatic 81, 3) := by decide +kernel
theorem dX8_split_6 : decode cX8_split 6 = .ok (.ifCond .ne 5, 3) := by decide +kernel
theorem dX8_split_9 : decode cX8_split 9 = .ok (.iconst (-1), 1) := by decide +kernel
theorem dX8_split_10 : decode cX8_split 10 = .ok (.ireturn, 1) := by decide +kernel
theorem dX8_split_11 : decode cX8_split 11 = .ok (.aload_n 0, 1) := by decide +kernel
theorem dX8_split_12 : decode cX8_split 12 = .ok (.getfield 59, 3) := by decide +kernel
theorem dX8_split_15 : decode cX8_split 15 = .ok (.aload_n 0, 1) := by decide +kernel
theorem dX8_split_16 : decode cX8_split 16 = .ok (.getfield 12, 3) := by decide +kernel
theorem dX8_split_19 : decode cX8_split 19 = .ok (.getfield 71, 3) := by decide +kernel
theorem dX8_split_22 : decode cX8_split 22 = .ok (.invokevirtual 336, 3) := by decide +kernel
theorem dX8_split_25 : decode cX8_split 25 = .ok (.aload_n 0, 1) := by decide +kernel
theorem dX8_split_26 : decode cX8_split 26 = .ok (.getfield 59, 3) := by decide +kernel
theorem dX8_split_29 : decode cX8_split 29 = .ok (.getfield 339, 3) := by decide +kernel
theorem dX8_split_32 : decode cX8_split 32 = .ok (.iconst 2, 1) := by decide +kernel
theorem dX8_split_33 : decode cX8_split 33 = .ok (.if_icmp .ge 5, 3) := by decide +kernel
theorem dX8_split_36 : decode cX8_split 36 = .ok (.iconst (-1), 1) := by decide +kernel
theorem dX8_split_37 : decode cX8_split 37 = .ok (.ireturn, 1) := by decide +kernel
theorem dX8_split_38 : decode cX8_split 38 = .ok (.aload_n 0, 1) := by decide +kernel
theorem dX8_split_39 : decode cX8_split 39 = .ok (.getfield 59, 3) := by decide +kernel
theorem dX8_split_42 : decode cX8_split 42 = .ok (.invokevirtual 342, 3) := by decide +kernel
theorem dX8_split_45 : decode cX8_split 45 = .ok (.istore_n 2, 1) := by decide +kernel
theorem dX8_split_46 : decode cX8_split 46 = .ok (.iload_n 1, 1) := by decide +kernel
theorem dX8_split_47 : decode cX8_split 47 = .ok (.ifCond .ne 7, 3) := by decide +kernel
theorem dX8_split_50 : decode cX8_split 50 = .ok (.iload_n 2, 1) := by decide +kernel
theorem dX8_split_51 : decode cX8_split 51 = .ok (.goto 11, 3) := by decide +kernel
theorem dX8_split_54 : decode cX8_split 54 = .ok (.aload_n 0, 1) := by decide +kernel
theorem dX8_split_55 : decode cX8_split 55 = .ok (.getfield 59, 3) := by decide +kernel
theorem dX8_split_58 : decode cX8_split 58 = .ok (.iload_n 2, 1) := by decide +kernel
theorem dX8_split_59 : decode cX8_split 59 = .ok (.invokevirtual 345, 3) := by decide +kernel
theorem dX8_split_62 : decode cX8_split 62 = .ok (.ireturn, 1) := by decide +kernel
theorem dX8_undo_0 : decode cX8_undo 0 = .ok (.aload_n 0, 1) := by decide +kernel
theorem dX8_undo_1 : decode cX8_undo 1 = .ok (.getfield 22, 3) := by decide +kernel
theorem dX8_undo_4 : decode cX8_undo 4 = .ok (.aload_n 0, 1) := by decide +kernel
theorem dX8_undo_5 : decode cX8_undo 5 = .ok (.getfield 12, 3) := by decide +kernel
theorem dX8_undo_8 : decode cX8_undo 8 = .ok (.getfield 71, 3) := by decide +kernel
theorem dX8_undo_11 : decode cX8_undo 11 = .ok (.invokevirtual 348, 3) := by decide +kernel
theorem dX8_undo_14 : decode cX8_undo 14 = .ok (.ireturn, 1) := by decide +kernel
theorem dX8_image_0 : decode cX8_image 0 = .ok (.iload_n 1, 1) := by decide +kernel
theorem dX8_image_1 : decode cX8_image 1 = .ok (.ifCond .eq 22, 3) := by decide +kernel
theorem dX8_image_4 : decode cX8_image 4 = .ok (.aload_n 0, 1) := by decide +kernel
theorem dX8_image_5 : decode cX8_image 5 = .ok (.getfield 16, 3) := by decide +kernel
theorem dX8_image_8 : decode cX8_image 8 = .ok (.aload_n 0, 1) := by decide +kernel
theorem dX8_image_9 : decode cX8_image 9 = .ok (.getfield 12, 3) := by decide +kernel
theorem dX8_image_12 : decode cX8_image 12 = .ok (.invokevirtual 352, 3) := by decide +kernel
theorem dX8_image_15 : decode cX8_image 15 = .ok (.aload_n 0, 1) := by decide +kernel
theorem dX8_image_16 : decode cX8_image 16 = .ok (.iconst 1, 1) := by decide +kernel
theorem dX8_image_17 : decode cX8_image 17 = .ok (.putfield 67, 3) := by decide +kernel
theorem dX8_image_20 : decode cX8_image 20 = .ok (.goto 28, 3) := by decide +kernel
theorem dX8_image_23 : decode cX8_image 23 = .ok (.aload_n 0, 1) := by decide +kernel
theorem dX8_image_24 : decode cX8_image 24 = .ok (.getfield 67, 3) := by decide +kernel
theorem dX8_image_27 : decode cX8_image 27 = .ok (.ifCond .eq 21, 3) := by decide +kernel
theorem dX8_image_30 : decode cX8_image 30 = .ok (.aload_n 0, 1) := by decide +kernel
theorem dX8_image_31 : decode cX8_image 31 = .ok (.getfield 12, 3) := by decide +kernel
theorem dX8_image_34 : decode cX8_image 34 = .ok (.aload_n 0, 1) := by decide +kernel
theorem dX8_image_35 : decode cX8_image 35 = .ok (.getfield 16, 3) := by decide +kernel
theorem dX8_image_38 : decode cX8_image 38 = .ok (.invokevirtual 352, 3) := by decide +kernel
theorem dX8_image_41 : decode cX8_image 41 = .ok (.aload_n 0, 1) := by decide +kernel
theorem dX8_image_42 : decode cX8_image 42 = .ok (.getfield 22, 3) := by decide +kernel
theorem dX8_image_45 : decode cX8_image 45 = .ok (.invokevirtual 78, 3) := by decide +kernel
theorem dX8_image_48 : decode cX8_image 48 = .ok (.aload_n 0, 1) := by decide +kernel
theorem dX8_image_49 : decode cX8_image 49 = .ok (.getfield 67, 3) := by decide +kernel
theorem dX8_image_52 : decode cX8_image 52 = .ok (.ireturn, 1) := by decide +kernel
theorem dX8_look_0 : decode cX8_look 0 = .ok (.iload_n 1, 1) := by decide +kernel
theorem dX8_look_1 : decode cX8_look 1 = .ok (.tableswitch 177 0 10 #[59, 70, 81, 92, 103, 114, 127, 140, 153, 161, 169], 59) := by decide +kernel
theorem dX8_look_60 : decode cX8_look 60 = .ok (.aload_n 0, 1) := by decide +kernel
theorem dX8_look_61 : decode cX8_look 61 = .ok (.getfield 12, 3) := by decide +kernel
theorem dX8_look_64 : decode cX8_look 64 = .ok (.getfield 71, 3) := by decide +kernel
theorem dX8_look_67 : decode cX8_look 67 = .ok (.getfield 89, 3) := by decide +kernel
theorem dX8_look_70 : decode cX8_look 70 = .ok (.ireturn, 1) := by decide +kernel
theorem dX8_look_71 : decode cX8_look 71 = .ok (.aload_n 0, 1) := by decide +kernel
theorem dX8_look_72 : decode cX8_look 72 = .ok (.getfield 12, 3) := by decide +kernel
theorem dX8_look_75 : decode cX8_look 75 = .ok (.getfield 71, 3) := by decide +kernel
theorem dX8_look_78 : decode cX8_look 78 = .ok (.getfield 138, 3) := by decide +kernel
theorem dX8_look_81 : decode cX8_look 81 = .ok (.ireturn, 1) := by decide +kernel
theorem dX8_look_82 : decode cX8_look 82 = .ok (.aload_n 0, 1) := by decide +kernel
theorem dX8_look_83 : decode cX8_look 83 = .ok (.getfield 12, 3) := by decide +kernel
theorem dX8_look_86 : decode cX8_look 86 = .ok (.getfield 71, 3) := by decide +kernel
theorem dX8_look_89 : decode cX8_look 89 = .ok (.invokevirtual 191, 3) := by decide +kernel
theorem dX8_look_92 : decode cX8_look 92 = .ok (.ireturn, 1) := by decide +kernel
theorem dX8_look_93 : decode cX8_look 93 = .ok (.aload_n 0, 1) := by decide +kernel
theorem dX8_look_94 : decode cX8_look 94 = .ok (.getfield 12, 3) := by decide +kernel
theorem dX8_look_97 : decode cX8_look 97 = .ok (.getfield 71, 3) := by decide +kernel
theorem dX8_look_100 : decode cX8_look 100 = .ok (.getfield 236, 3) := by decide +kernel
theorem dX8_look_103 : decode cX8_look 103 = .ok (.ireturn, 1) := by decide +kernel
theorem dX8_look_104 : decode cX8_look 104 = .ok (.aload_n 0, 1) := by decide +kernel
theorem dX8_look_105 : decode cX8_look 105 = .ok (.getfield 12, 3) := by decide +kernel
theorem dX8_look_108 : decode cX8_look 108 = .ok (.getfield 71, 3) := by decide +kernel
theorem dX8_look_111 : decode cX8_look 111 = .ok (.getfield 74, 3) := by decide +kernel
theorem dX8_look_114 : decode cX8_look 114 = .ok (.ireturn, 1) := by decide +kernel
theorem dX8_look_115 : decode cX8_look 115 = .ok (.aload_n 0, 1) := by decide +kernel
theorem dX8_look_116 : decode cX8_look 116 = .ok (.getfield 12, 3) := by decide +kernel
theorem dX8_look_119 : decode cX8_look 119 = .ok (.getfield 168, 3) := by decide +kernel
theorem dX8_look_122 : decode cX8_look 122 = .ok (.iconst 0, 1) := by decide +kernel
theorem dX8_look_123 : decode cX8_look 123 = .ok (.aaload, 1) := by decide +kernel
theorem dX8_look_124 : decode cX8_look 124 = .ok (.getfield 182, 3) := by decide +kernel
theorem dX8_look_127 : decode cX8_look 127 = .ok (.ireturn, 1) := by decide +kernel
theorem dX8_look_128 : decode cX8_look 128 = .ok (.aload_n 0, 1) := by decide +kernel
theorem dX8_look_129 : decode cX8_look 129 = .ok (.getfield 12, 3) := by decide +kernel
theorem dX8_look_132 : decode cX8_look 132 = .ok (.getfield 168, 3) := by decide +kernel
theorem dX8_look_135 : decode cX8_look 135 = .ok (.iconst 1, 1) := by decide +kernel
theorem dX8_look_136 : decode cX8_look 136 = .ok (.aaload, 1) := by decide +kernel
theorem dX8_look_137 : decode cX8_look 137 = .ok (.getfield 182, 3) := by decide +kernel
theorem dX8_look_140 : decode cX8_look 140 = .ok (.ireturn, 1) := by decide +kernel
theorem dX8_look_141 : decode cX8_look 141 = .ok (.aload_n 0, 1) := by decide +kernel
theorem dX8_look_142 : decode cX8_look 142 = .ok (.getfield 12, 3) := by decide +kernel
theorem dX8_look_145 : decode cX8_look 145 = .ok (.getfield 168, 3) := by decide +kernel
theorem dX8_look_148 : decode cX8_look 148 = .ok (.iconst 2, 1) := by decide +kernel
theorem dX8_look_149 : decode cX8_look 149 = .ok (.aaload, 1) := by decide +kernel
theorem dX8_look_150 : decode cX8_look 150 = .ok (.getfield 182, 3) := by decide +kernel
theorem dX8_look_153 : decode cX8_look 153 = .ok (.ireturn, 1) := by decide +kernel
theorem dX8_look_154 : decode cX8_look 154 = .ok (.aload_n 0, 1) := by decide +kernel
theorem dX8_look_155 : decode cX8_look 155 = .ok (.getfield 12, 3) := by decide +kernel
theorem dX8_look_158 : decode cX8_look 158 = .ok (.invokevirtual 258, 3) := by decide +kernel
theorem dX8_look_161 : decode cX8_look 161 = .ok (.ireturn, 1) := by decide +kernel
theorem dX8_look_162 : decode cX8_look 162 = .ok (.aload_n 0, 1) := by decide +kernel
theorem dX8_look_163 : decode cX8_look 163 = .ok (.getfield 12, 3) := by decide +kernel
theorem dX8_look_166 : decode cX8_look 166 = .ok (.getfield 288, 3) := by decide +kernel
theorem dX8_look_169 : decode cX8_look 169 = .ok (.ireturn, 1) := by decide +kernel
theorem dX8_look_170 : decode cX8_look 170 = .ok (.aload_n 0, 1) := by decide +kernel
theorem dX8_look_171 : decode cX8_look 171 = .ok (.getfield 22, 3) := by decide +kernel
theorem dX8_look_174 : decode cX8_look 174 = .ok (.getfield 355, 3) := by decide +kernel
theorem dX8_look_177 : decode cX8_look 177 = .ok (.ireturn, 1) := by decide +kernel
theorem dX8_look_178 : decode cX8_look 178 = .ok (.iconst (-1), 1) := by decide +kernel
theorem dX8_look_179 : decode cX8_look 179 = .ok (.ireturn, 1) := by decide +kernel
theorem dX8_within_0 : decode cX8_within 0 = .ok (.iload_n 0, 1) := by decide +kernel
theorem dX8_within_1 : decode cX8_within 1 = .ok (.iload_n 1, 1) := by decide +kernel
theorem dX8_within_2 : decode cX8_within 2 = .ok (.if_icmp .lt 12, 3) := by decide +kernel
theorem dX8_within_5 : decode cX8_within 5 = .ok (.iload_n 0, 1) := by decide +kernel
theorem dX8_within_6 : decode cX8_within 6 = .ok (.iload_n 2, 1) := by decide +kernel
theorem dX8_within_7 : decode cX8_within 7 = .ok (.if_icmp .gt 7, 3) := by decide +kernel
theorem dX8_within_10 : decode cX8_within 10 = .ok (.iconst 1, 1) := by decide +kernel
theorem dX8_within_11 : decode cX8_within 11 = .ok (.goto 4, 3) := by decide +kernel
theorem dX8_within_14 : decode cX8_within 14 = .ok (.iconst 0, 1) := by decide +kernel
theorem dX8_within_15 : decode cX8_within 15 = .ok (.ireturn, 1) := by decide +kernel
theorem dX8_isOne_0 : decode cX8_isOne 0 = .ok (.iload_n 0, 1) := by decide +kernel
theorem dX8_isOne_1 : decode cX8_isOne 1 = .ok (.ifCond .eq 8, 3) := by decide +kernel
theorem dX8_isOne_4 : decode cX8_isOne 4 = .ok (.iload_n 0, 1) := by decide +kernel
theorem dX8_isOne_5 : decode cX8_isOne 5 = .ok (.iconst 1, 1) := by decide +kernel
theorem dX8_isOne_6 : decode cX8_isOne 6 = .ok (.if_icmp .ne 7, 3) := by decide +kernel
theorem dX8_isOne_9 : decode cX8_isOne 9 = .ok (.iconst 1, 1) := by decide +kernel
theorem dX8_isOne_10 : decode cX8_isOne 10 = .ok (.goto 4, 3) := by decide +kernel
theorem dX8_isOne_13 : decode cX8_isOne 13 = .ok (.iconst 0, 1) := by decide +kernel
theorem dX8_isOne_14 : decode cX8_isOne 14 = .ok (.ireturn, 1) := by decide +kernel
theorem dX8_imagine_0 : decode cX8_imagine 0 = .ok (.aload_n 0, 1) := by decide +kernel
theorem dX8_imagine_1 : decode cX8_imagine 1 = .ok (.getfield 52, 3) := by decide +kernel
theorem dX8_imagine_4 : decode cX8_imagine 4 = .ok (.aload_n 0, 1) := by decide +kernel
theorem dX8_imagine_5 : decode cX8_imagine 5 = .ok (.getfield 12, 3) := by decide +kernel
theorem dX8_imagine_8 : decode cX8_imagine 8 = .ok (.getfield 71, 3) := by decide +kernel
theorem dX8_imagine_11 : decode cX8_imagine 11 = .ok (.invokevirtual 358, 3) := by decide +kernel
theorem dX8_imagine_14 : decode cX8_imagine 14 = .ok (.aload_n 0, 1) := by decide +kernel
theorem dX8_imagine_15 : decode cX8_imagine 15 = .ok (.getfield 45, 3) := by decide +kernel
theorem dX8_imagine_18 : decode cX8_imagine 18 = .ok (.aload_n 0, 1) := by decide +kernel
theorem dX8_imagine_19 : decode cX8_imagine 19 = .ok (.getfield 52, 3) := by decide +kernel
theorem dX8_imagine_22 : decode cX8_imagine 22 = .ok (.iconst 1, 1) := by decide +kernel
theorem dX8_imagine_23 : decode cX8_imagine 23 = .ok (.invokevirtual 112, 3) := by decide +kernel
theorem dX8_imagine_26 : decode cX8_imagine 26 = .ok (.return_, 1) := by decide +kernel
theorem dX8_comesRound_0 : decode cX8_comesRound 0 = .ok (.iconst 1, 1) := by decide +kernel
theorem dX8_comesRound_1 : decode cX8_comesRound 1 = .ok (.istore_n 2, 1) := by decide +kernel
theorem dX8_comesRound_2 : decode cX8_comesRound 2 = .ok (.iload_n 2, 1) := by decide +kernel
theorem dX8_comesRound_3 : decode cX8_comesRound 3 = .ok (.bipush 60, 2) := by decide +kernel
theorem dX8_comesRound_5 : decode cX8_comesRound 5 = .ok (.if_icmp .gt 51, 3) := by decide +kernel
theorem dX8_comesRound_8 : decode cX8_comesRound 8 = .ok (.iload_n 2, 1) := by decide +kernel
theorem dX8_comesRound_9 : decode cX8_comesRound 9 = .ok (.iconst 2, 1) := by decide +kernel
theorem dX8_comesRound_10 : decode cX8_comesRound 10 = .ok (.isub, 1) := by decide +kernel
theorem dX8_comesRound_11 : decode cX8_comesRound 11 = .ok (.istore_n 3, 1) := by decide +kernel
theorem dX8_comesRound_12 : decode cX8_comesRound 12 = .ok (.iload_n 3, 1) := by decide +kernel
theorem dX8_comesRound_13 : decode cX8_comesRound 13 = .ok (.iconst 1, 1) := by decide +kernel
theorem dX8_comesRound_14 : decode cX8_comesRound 14 = .ok (.if_icmp .lt 36, 3) := by decide +kernel
theorem dX8_comesRound_17 : decode cX8_comesRound 17 = .ok (.aload_n 0, 1) := by decide +kernel
theorem dX8_comesRound_18 : decode cX8_comesRound 18 = .ok (.getfield 63, 3) := by decide +kernel
theorem dX8_comesRound_21 : decode cX8_comesRound 21 = .ok (.iload_n 2, 1) := by decide +kernel
theorem dX8_comesRound_22 : decode cX8_comesRound 22 = .ok (.iaload, 1) := by decide +kernel
theorem dX8_comesRound_23 : decode cX8_comesRound 23 = .ok (.aload_n 0, 1) := by decide +kernel
theorem dX8_comesRound_24 : decode cX8_comesRound 24 = .ok (.getfield 63, 3) := by decide +kernel
theorem dX8_comesRound_27 : decode cX8_comesRound 27 = .ok (.iload_n 3, 1) := by decide +kernel
theorem dX8_comesRound_28 : decode cX8_comesRound 28 = .ok (.iaload, 1) := by decide +kernel
theorem dX8_comesRound_29 : decode cX8_comesRound 29 = .ok (.if_icmp .ne 15, 3) := by decide +kernel
theorem dX8_comesRound_32 : decode cX8_comesRound 32 = .ok (.iload_n 1, 1) := by decide +kernel
theorem dX8_comesRound_33 : decode cX8_comesRound 33 = .ok (.ifCond .ne 7, 3) := by decide +kernel
theorem dX8_comesRound_36 : decode cX8_comesRound 36 = .ok (.iload_n 2, 1) := by decide +kernel
theorem dX8_comesRound_37 : decode cX8_comesRound 37 = .ok (.goto 6, 3) := by decide +kernel
theorem dX8_comesRound_40 : decode cX8_comesRound 40 = .ok (.iload_n 2, 1) := by decide +kernel
theorem dX8_comesRound_41 : decode cX8_comesRound 41 = .ok (.iload_n 3, 1) := by decide +kernel
theorem dX8_comesRound_42 : decode cX8_comesRound 42 = .ok (.isub, 1) := by decide +kernel
theorem dX8_comesRound_43 : decode cX8_comesRound 43 = .ok (.ireturn, 1) := by decide +kernel
theorem dX8_comesRound_44 : decode cX8_comesRound 44 = .ok (.iinc 3 (-2), 3) := by decide +kernel
theorem dX8_comesRound_47 : decode cX8_comesRound 47 = .ok (.goto (-35), 3) := by decide +kernel
theorem dX8_comesRound_50 : decode cX8_comesRound 50 = .ok (.iinc 2 1, 3) := by decide +kernel
theorem dX8_comesRound_53 : decode cX8_comesRound 53 = .ok (.goto (-51), 3) := by decide +kernel
theorem dX8_comesRound_56 : decode cX8_comesRound 56 = .ok (.iconst (-1), 1) := by decide +kernel
theorem dX8_comesRound_57 : decode cX8_comesRound 57 = .ok (.ireturn, 1) := by decide +kernel
