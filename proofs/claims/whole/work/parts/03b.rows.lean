theorem dX7_init_126 : decode cX7_init 126 = .ok (.iload_n 2, 1) := by decide +kernel
theorem dX7_init_127 : decode cX7_init 127 = .ok (.iaload, 1) := by decide +kernel
theorem dX7_init_128 : decode cX7_init 128 = .ok (.imul, 1) := by decide +kernel
theorem dX7_init_129 : decode cX7_init 129 = .ok (.iadd, 1) := by decide +kernel
theorem dX7_init_130 : decode cX7_init 130 = .ok (.iastore, 1) := by decide +kernel
theorem dX7_init_131 : decode cX7_init 131 = .ok (.iinc 2 1, 3) := by decide +kernel
theorem dX7_init_134 : decode cX7_init 134 = .ok (.iinc 3 1, 3) := by decide +kernel
theorem dX7_init_137 : decode cX7_init 137 = .ok (.goto (-75), 3) := by decide +kernel
theorem dX7_init_140 : decode cX7_init 140 = .ok (.return_, 1) := by decide +kernel
theorem dX7_start_0 : decode cX7_start 0 = .ok (.aload_n 0, 1) := by decide +kernel
theorem dX7_start_1 : decode cX7_start 1 = .ok (.aload_n 1, 1) := by decide +kernel
theorem dX7_start_2 : decode cX7_start 2 = .ok (.putfield 17, 3) := by decide +kernel
theorem dX7_start_5 : decode cX7_start 5 = .ok (.aload_n 0, 1) := by decide +kernel
theorem dX7_start_6 : decode cX7_start 6 = .ok (.iload_n 2, 1) := by decide +kernel
theorem dX7_start_7 : decode cX7_start 7 = .ok (.aload_n 1, 1) := by decide +kernel
theorem dX7_start_8 : decode cX7_start 8 = .ok (.arraylength, 1) := by decide +kernel
theorem dX7_start_9 : decode cX7_start 9 = .ok (.invokestatic 57, 3) := by decide +kernel
theorem dX7_start_12 : decode cX7_start 12 = .ok (.putfield 21, 3) := by decide +kernel
theorem dX7_start_15 : decode cX7_start 15 = .ok (.aload_n 0, 1) := by decide +kernel
theorem dX7_start_16 : decode cX7_start 16 = .ok (.iconst 0, 1) := by decide +kernel
theorem dX7_start_17 : decode cX7_start 17 = .ok (.putfield 25, 3) := by decide +kernel
theorem dX7_start_20 : decode cX7_start 20 = .ok (.aload_n 0, 1) := by decide +kernel
theorem dX7_start_21 : decode cX7_start 21 = .ok (.sipush 284, 3) := by decide +kernel
theorem dX7_start_24 : decode cX7_start 24 = .ok (.putfield 28, 3) := by decide +kernel
theorem dX7_start_27 : decode cX7_start 27 = .ok (.aload_n 0, 1) := by decide +kernel
theorem dX7_start_28 : decode cX7_start 28 = .ok (.iconst 0, 1) := by decide +kernel
theorem dX7_start_29 : decode cX7_start 29 = .ok (.putfield 37, 3) := by decide +kernel
theorem dX7_start_32 : decode cX7_start 32 = .ok (.aload_n 0, 1) := by decide +kernel
theorem dX7_start_33 : decode cX7_start 33 = .ok (.iconst (-1), 1) := by decide +kernel
theorem dX7_start_34 : decode cX7_start 34 = .ok (.putfield 40, 3) := by decide +kernel
theorem dX7_start_37 : decode cX7_start 37 = .ok (.aload_n 0, 1) := by decide +kernel
theorem dX7_start_38 : decode cX7_start 38 = .ok (.invokevirtual 63, 3) := by decide +kernel
theorem dX7_start_41 : decode cX7_start 41 = .ok (.return_, 1) := by decide +kernel
theorem dX7_fail_0 : decode cX7_fail 0 = .ok (.aload_n 0, 1) := by decide +kernel
theorem dX7_fail_1 : decode cX7_fail 1 = .ok (.getfield 37, 3) := by decide +kernel
theorem dX7_fail_4 : decode cX7_fail 4 = .ok (.ifCond .ne 13, 3) := by decide +kernel
theorem dX7_fail_7 : decode cX7_fail 7 = .ok (.aload_n 0, 1) := by decide +kernel
theorem dX7_fail_8 : decode cX7_fail 8 = .ok (.iload_n 1, 1) := by decide +kernel
theorem dX7_fail_9 : decode cX7_fail 9 = .ok (.putfield 37, 3) := by decide +kernel
theorem dX7_fail_12 : decode cX7_fail 12 = .ok (.aload_n 0, 1) := by decide +kernel
theorem dX7_fail_13 : decode cX7_fail 13 = .ok (.iload_n 2, 1) := by decide +kernel
theorem dX7_fail_14 : decode cX7_fail 14 = .ok (.putfield 40, 3) := by decide +kernel
theorem dX7_fail_17 : decode cX7_fail 17 = .ok (.aload_n 0, 1) := by decide +kernel
theorem dX7_fail_18 : decode cX7_fail 18 = .ok (.sipush 285, 3) := by decide +kernel
theorem dX7_fail_21 : decode cX7_fail 21 = .ok (.putfield 28, 3) := by decide +kernel
theorem dX7_fail_24 : decode cX7_fail 24 = .ok (.return_, 1) := by decide +kernel
theorem dX7_next_0 : decode cX7_next 0 = .ok (.aload_n 0, 1) := by decide +kernel
theorem dX7_next_1 : decode cX7_next 1 = .ok (.getfield 37, 3) := by decide +kernel
theorem dX7_next_4 : decode cX7_next 4 = .ok (.ifCond .eq 4, 3) := by decide +kernel
theorem dX7_next_7 : decode cX7_next 7 = .ok (.return_, 1) := by decide +kernel
theorem dX7_next_8 : decode cX7_next 8 = .ok (.aload_n 0, 1) := by decide +kernel
theorem dX7_next_9 : decode cX7_next 9 = .ok (.getfield 28, 3) := by decide +kernel
theorem dX7_next_12 : decode cX7_next 12 = .ok (.istore_n 1, 1) := by decide +kernel
theorem dX7_next_13 : decode cX7_next 13 = .ok (.aload_n 0, 1) := by decide +kernel
theorem dX7_next_14 : decode cX7_next 14 = .ok (.aload_n 0, 1) := by decide +kernel
theorem dX7_next_15 : decode cX7_next 15 = .ok (.invokevirtual 66, 3) := by decide +kernel
theorem dX7_next_18 : decode cX7_next 18 = .ok (.putfield 31, 3) := by decide +kernel
theorem dX7_next_21 : decode cX7_next 21 = .ok (.aload_n 0, 1) := by decide +kernel
theorem dX7_next_22 : decode cX7_next 22 = .ok (.getfield 31, 3) := by decide +kernel
theorem dX7_next_25 : decode cX7_next 25 = .ok (.aload_n 0, 1) := by decide +kernel
theorem dX7_next_26 : decode cX7_next 26 = .ok (.getfield 25, 3) := by decide +kernel
theorem dX7_next_29 : decode cX7_next 29 = .ok (.if_icmp .ne 7, 3) := by decide +kernel
theorem dX7_next_32 : decode cX7_next 32 = .ok (.iconst 1, 1) := by decide +kernel
theorem dX7_next_33 : decode cX7_next 33 = .ok (.goto 4, 3) := by decide +kernel
theorem dX7_next_36 : decode cX7_next 36 = .ok (.iconst 0, 1) := by decide +kernel
theorem dX7_next_37 : decode cX7_next 37 = .ok (.istore_n 2, 1) := by decide +kernel
theorem dX7_next_38 : decode cX7_next 38 = .ok (.aload_n 0, 1) := by decide +kernel
theorem dX7_next_39 : decode cX7_next 39 = .ok (.getfield 31, 3) := by decide +kernel
theorem dX7_next_42 : decode cX7_next 42 = .ok (.aload_n 0, 1) := by decide +kernel
theorem dX7_next_43 : decode cX7_next 43 = .ok (.getfield 21, 3) := by decide +kernel
theorem dX7_next_46 : decode cX7_next 46 = .ok (.if_icmp .lt 13, 3) := by decide +kernel
theorem dX7_next_49 : decode cX7_next 49 = .ok (.aload_n 0, 1) := by decide +kernel
theorem dX7_next_50 : decode cX7_next 50 = .ok (.sipush 284, 3) := by decide +kernel
theorem dX7_next_53 : decode cX7_next 53 = .ok (.putfield 28, 3) := by decide +kernel
theorem dX7_next_56 : decode cX7_next 56 = .ok (.goto 106, 3) := by decide +kernel
theorem dX7_next_59 : decode cX7_next 59 = .ok (.aload_n 0, 1) := by decide +kernel
theorem dX7_next_60 : decode cX7_next 60 = .ok (.getfield 17, 3) := by decide +kernel
theorem dX7_next_63 : decode cX7_next 63 = .ok (.aload_n 0, 1) := by decide +kernel
theorem dX7_next_64 : decode cX7_next 64 = .ok (.getfield 31, 3) := by decide +kernel
theorem dX7_next_67 : decode cX7_next 67 = .ok (.baload, 1) := by decide +kernel
theorem dX7_next_68 : decode cX7_next 68 = .ok (.invokestatic 69, 3) := by decide +kernel
theorem dX7_next_71 : decode cX7_next 71 = .ok (.ifCond .eq 26, 3) := by decide +kernel
theorem dX7_next_74 : decode cX7_next 74 = .ok (.aload_n 0, 1) := by decide +kernel
theorem dX7_next_75 : decode cX7_next 75 = .ok (.iload_n 2, 1) := by decide +kernel
theorem dX7_next_76 : decode cX7_next 76 = .ok (.ifCond .eq 14, 3) := by decide +kernel
theorem dX7_next_79 : decode cX7_next 79 = .ok (.iload_n 1, 1) := by decide +kernel
theorem dX7_next_80 : decode cX7_next 80 = .ok (.sipush 283, 3) := by decide +kernel
theorem dX7_next_83 : decode cX7_next 83 = .ok (.if_icmp .ne 7, 3) := by decide +kernel
theorem dX7_next_86 : decode cX7_next 86 = .ok (.iconst 1, 1) := by decide +kernel
theorem dX7_next_87 : decode cX7_next 87 = .ok (.goto 4, 3) := by decide +kernel
theorem dX7_next_90 : decode cX7_next 90 = .ok (.iconst 0, 1) := by decide +kernel
theorem dX7_next_91 : decode cX7_next 91 = .ok (.invokevirtual 73, 3) := by decide +kernel
theorem dX7_next_94 : decode cX7_next 94 = .ok (.goto 68, 3) := by decide +kernel
theorem dX7_next_97 : decode cX7_next 97 = .ok (.aload_n 0, 1) := by decide +kernel
theorem dX7_next_98 : decode cX7_next 98 = .ok (.getfield 17, 3) := by decide +kernel
theorem dX7_next_101 : decode cX7_next 101 = .ok (.aload_n 0, 1) := by decide +kernel
theorem dX7_next_102 : decode cX7_next 102 = .ok (.getfield 31, 3) := by decide +kernel
theorem dX7_next_105 : decode cX7_next 105 = .ok (.baload, 1) := by decide +kernel
theorem dX7_next_106 : decode cX7_next 106 = .ok (.invokestatic 77, 3) := by decide +kernel
theorem dX7_next_109 : decode cX7_next 109 = .ok (.ifCond .eq 26, 3) := by decide +kernel
theorem dX7_next_112 : decode cX7_next 112 = .ok (.aload_n 0, 1) := by decide +kernel
theorem dX7_next_113 : decode cX7_next 113 = .ok (.iload_n 2, 1) := by decide +kernel
theorem dX7_next_114 : decode cX7_next 114 = .ok (.ifCond .eq 14, 3) := by decide +kernel
theorem dX7_next_117 : decode cX7_next 117 = .ok (.iload_n 1, 1) := by decide +kernel
theorem dX7_next_118 : decode cX7_next 118 = .ok (.invokestatic 80, 3) := by decide +kernel
theorem dX7_next_121 : decode cX7_next 121 = .ok (.ifCond .eq 7, 3) := by decide +kernel
theorem dX7_next_124 : decode cX7_next 124 = .ok (.iconst 1, 1) := by decide +kernel
theorem dX7_next_125 : decode cX7_next 125 = .ok (.goto 4, 3) := by decide +kernel
theorem dX7_next_128 : decode cX7_next 128 = .ok (.iconst 0, 1) := by decide +kernel
theorem dX7_next_129 : decode cX7_next 129 = .ok (.invokevirtual 83, 3) := by decide +kernel
theorem dX7_next_132 : decode cX7_next 132 = .ok (.goto 30, 3) := by decide +kernel
theorem dX7_next_135 : decode cX7_next 135 = .ok (.aload_n 0, 1) := by decide +kernel
theorem dX7_next_136 : decode cX7_next 136 = .ok (.aload_n 0, 1) := by decide +kernel
theorem dX7_next_137 : decode cX7_next 137 = .ok (.getfield 17, 3) := by decide +kernel
theorem dX7_next_140 : decode cX7_next 140 = .ok (.aload_n 0, 1) := by decide +kernel
theorem dX7_next_141 : decode cX7_next 141 = .ok (.getfield 31, 3) := by decide +kernel
theorem dX7_next_144 : decode cX7_next 144 = .ok (.baload, 1) := by decide +kernel
theorem dX7_next_145 : decode cX7_next 145 = .ok (.sipush 255, 3) := by decide +kernel
theorem dX7_next_148 : decode cX7_next 148 = .ok (.iand, 1) := by decide +kernel
theorem dX7_next_149 : decode cX7_next 149 = .ok (.putfield 28, 3) := by decide +kernel
theorem dX7_next_152 : decode cX7_next 152 = .ok (.aload_n 0, 1) := by decide +kernel
theorem dX7_next_153 : decode cX7_next 153 = .ok (.aload_n 0, 1) := by decide +kernel
theorem dX7_next_154 : decode cX7_next 154 = .ok (.getfield 31, 3) := by decide +kernel
theorem dX7_next_157 : decode cX7_next 157 = .ok (.iconst 1, 1) := by decide +kernel
theorem dX7_next_158 : decode cX7_next 158 = .ok (.iadd, 1) := by decide +kernel
theorem dX7_next_159 : decode cX7_next 159 = .ok (.putfield 25, 3) := by decide +kernel
theorem dX7_next_162 : decode cX7_next 162 = .ok (.return_, 1) := by decide +kernel
theorem dX7_upcoming_0 : decode cX7_upcoming 0 = .ok (.aload_n 0, 1) := by decide +kernel
theorem dX7_upcoming_1 : decode cX7_upcoming 1 = .ok (.getfield 25, 3) := by decide +kernel
theorem dX7_upcoming_4 : decode cX7_upcoming 4 = .ok (.istore_n 1, 1) := by decide +kernel
theorem dX7_upcoming_5 : decode cX7_upcoming 5 = .ok (.iload_n 1, 1) := by decide +kernel
theorem dX7_upcoming_6 : decode cX7_upcoming 6 = .ok (.aload_n 0, 1) := by decide +kernel
theorem dX7_upcoming_7 : decode cX7_upcoming 7 = .ok (.getfield 21, 3) := by decide +kernel
theorem dX7_upcoming_10 : decode cX7_upcoming 10 = .ok (.if_icmp .ge 21, 3) := by decide +kernel
theorem dX7_upcoming_13 : decode cX7_upcoming 13 = .ok (.aload_n 0, 1) := by decide +kernel
theorem dX7_upcoming_14 : decode cX7_upcoming 14 = .ok (.getfield 17, 3) := by decide +kernel
theorem dX7_upcoming_17 : decode cX7_upcoming 17 = .ok (.iload_n 1, 1) := by decide +kernel
theorem dX7_upcoming_18 : decode cX7_upcoming 18 = .ok (.baload, 1) := by decide +kernel
theorem dX7_upcoming_19 : decode cX7_upcoming 19 = .ok (.invokestatic 86, 3) := by decide +kernel
theorem dX7_upcoming_22 : decode cX7_upcoming 22 = .ok (.ifCond .eq 9, 3) := by decide +kernel
theorem dX7_upcoming_25 : decode cX7_upcoming 25 = .ok (.iinc 1 1, 3) := by decide +kernel
theorem dX7_upcoming_28 : decode cX7_upcoming 28 = .ok (.goto (-23), 3) := by decide +kernel
theorem dX7_upcoming_31 : decode cX7_upcoming 31 = .ok (.iload_n 1, 1) := by decide +kernel
theorem dX7_upcoming_32 : decode cX7_upcoming 32 = .ok (.ireturn, 1) := by decide +kernel
theorem dX7_isAtEnd_0 : decode cX7_isAtEnd 0 = .ok (.aload_n 0, 1) := by decide +kernel
theorem dX7_isAtEnd_1 : decode cX7_isAtEnd 1 = .ok (.invokevirtual 66, 3) := by decide +kernel
theorem dX7_isAtEnd_4 : decode cX7_isAtEnd 4 = .ok (.aload_n 0, 1) := by decide +kernel
theorem dX7_isAtEnd_5 : decode cX7_isAtEnd 5 = .ok (.getfield 21, 3) := by decide +kernel
theorem dX7_isAtEnd_8 : decode cX7_isAtEnd 8 = .ok (.if_icmp .lt 7, 3) := by decide +kernel
theorem dX7_isAtEnd_11 : decode cX7_isAtEnd 11 = .ok (.iconst 1, 1) := by decide +kernel
theorem dX7_isAtEnd_12 : decode cX7_isAtEnd 12 = .ok (.goto 4, 3) := by decide +kernel
theorem dX7_isAtEnd_15 : decode cX7_isAtEnd 15 = .ok (.iconst 0, 1) := by decide +kernel
theorem dX7_isAtEnd_16 : decode cX7_isAtEnd 16 = .ok (.ireturn, 1) := by decide +kernel
theorem dX7_readWord_0 : decode cX7_readWord 0 = .ok (.iload_n 1, 1) := by decide +kernel
theorem dX7_readWord_1 : decode cX7_readWord 1 = .ok (.ifCond .eq 13, 3) := by decide +kernel
theorem dX7_readWord_4 : decode cX7_readWord 4 = .ok (.aload_n 0, 1) := by decide +kernel
theorem dX7_readWord_5 : decode cX7_readWord 5 = .ok (.iconst 1, 1) := by decide +kernel
theorem dX7_readWord_6 : decode cX7_readWord 6 = .ok (.aload_n 0, 1) := by decide +kernel
theorem dX7_readWord_7 : decode cX7_readWord 7 = .ok (.getfield 31, 3) := by decide +kernel
theorem dX7_readWord_10 : decode cX7_readWord 10 = .ok (.invokevirtual 89, 3) := by decide +kernel
theorem dX7_readWord_13 : decode cX7_readWord 13 = .ok (.return_, 1) := by decide +kernel
theorem dX7_readWord_14 : decode cX7_readWord 14 = .ok (.aload_n 0, 1) := by decide +kernel
theorem dX7_readWord_15 : decode cX7_readWord 15 = .ok (.iconst 0, 1) := by decide +kernel
theorem dX7_readWord_16 : decode cX7_readWord 16 = .ok (.putfield 34, 3) := by decide +kernel
theorem dX7_readWord_19 : decode cX7_readWord 19 = .ok (.aload_n 0, 1) := by decide +kernel
theorem dX7_readWord_20 : decode cX7_readWord 20 = .ok (.getfield 31, 3) := by decide +kernel
theorem dX7_readWord_23 : decode cX7_readWord 23 = .ok (.istore_n 2, 1) := by decide +kernel
theorem dX7_readWord_24 : decode cX7_readWord 24 = .ok (.iload_n 2, 1) := by decide +kernel
theorem dX7_readWord_25 : decode cX7_readWord 25 = .ok (.aload_n 0, 1) := by decide +kernel
theorem dX7_readWord_26 : decode cX7_readWord 26 = .ok (.getfield 21, 3) := by decide +kernel
theorem dX7_readWord_29 : decode cX7_readWord 29 = .ok (.if_icmp .ge 70, 3) := by decide +kernel
theorem dX7_readWord_32 : decode cX7_readWord 32 = .ok (.aload_n 0, 1) := by decide +kernel
theorem dX7_readWord_33 : decode cX7_readWord 33 = .ok (.getfield 17, 3) := by decide +kernel
theorem dX7_readWord_36 : decode cX7_readWord 36 = .ok (.iload_n 2, 1) := by decide +kernel
theorem dX7_readWord_37 : decode cX7_readWord 37 = .ok (.baload, 1) := by decide +kernel
theorem dX7_readWord_38 : decode cX7_readWord 38 = .ok (.invokestatic 69, 3) := by decide +kernel
theorem dX7_readWord_41 : decode cX7_readWord 41 = .ok (.ifCond .eq 58, 3) := by decide +kernel
theorem dX7_readWord_44 : decode cX7_readWord 44 = .ok (.iload_n 2, 1) := by decide +kernel
theorem dX7_readWord_45 : decode cX7_readWord 45 = .ok (.aload_n 0, 1) := by decide +kernel
theorem dX7_readWord_46 : decode cX7_readWord 46 = .ok (.getfield 31, 3) := by decide +kernel
theorem dX7_readWord_49 : decode cX7_readWord 49 = .ok (.isub, 1) := by decide +kernel
theorem dX7_readWord_50 : decode cX7_readWord 50 = .ok (.bipush 6, 2) := by decide +kernel
theorem dX7_readWord_52 : decode cX7_readWord 52 = .ok (.if_icmp .lt 10, 3) := by decide +kernel
theorem dX7_readWord_55 : decode cX7_readWord 55 = .ok (.aload_n 0, 1) := by decide +kernel
theorem dX7_readWord_56 : decode cX7_readWord 56 = .ok (.iconst 1, 1) := by decide +kernel
theorem dX7_readWord_57 : decode cX7_readWord 57 = .ok (.iload_n 2, 1) := by decide +kernel
theorem dX7_readWord_58 : decode cX7_readWord 58 = .ok (.invokevirtual 89, 3) := by decide +kernel
theorem dX7_readWord_61 : decode cX7_readWord 61 = .ok (.return_, 1) := by decide +kernel
theorem dX7_readWord_62 : decode cX7_readWord 62 = .ok (.aload_n 0, 1) := by decide +kernel
theorem dX7_readWord_63 : decode cX7_readWord 63 = .ok (.dup, 1) := by decide +kernel
theorem dX7_readWord_64 : decode cX7_readWord 64 = .ok (.getfield 34, 3) := by decide +kernel
theorem dX7_readWord_67 : decode cX7_readWord 67 = .ok (.aload_n 0, 1) := by decide +kernel
theorem dX7_readWord_68 : decode cX7_readWord 68 = .ok (.getfield 17, 3) := by decide +kernel
theorem dX7_readWord_71 : decode cX7_readWord 71 = .ok (.iload_n 2, 1) := by decide +kernel
theorem dX7_readWord_72 : decode cX7_readWord 72 = .ok (.baload, 1) := by decide +kernel
theorem dX7_readWord_73 : decode cX7_readWord 73 = .ok (.bipush 97, 2) := by decide +kernel
theorem dX7_readWord_75 : decode cX7_readWord 75 = .ok (.isub, 1) := by decide +kernel
theorem dX7_readWord_76 : decode cX7_readWord 76 = .ok (.iconst 1, 1) := by decide +kernel
theorem dX7_readWord_77 : decode cX7_readWord 77 = .ok (.iadd, 1) := by decide +kernel
theorem dX7_readWord_78 : decode cX7_readWord 78 = .ok (.getstatic 54, 3) := by decide +kernel
theorem dX7_readWord_81 : decode cX7_readWord 81 = .ok (.iload_n 2, 1) := by decide +kernel
theorem dX7_readWord_82 : decode cX7_readWord 82 = .ok (.aload_n 0, 1) := by decide +kernel
theorem dX7_readWord_83 : decode cX7_readWord 83 = .ok (.getfield 31, 3) := by decide +kernel
theorem dX7_readWord_86 : decode cX7_readWord 86 = .ok (.isub, 1) := by decide +kernel
theorem dX7_readWord_87 : decode cX7_readWord 87 = .ok (.iaload, 1) := by decide +kernel
theorem dX7_readWord_88 : decode cX7_readWord 88 = .ok (.imul, 1) := by decide +kernel
theorem dX7_readWord_89 : decode cX7_readWord 89 = .ok (.iadd, 1) := by decide +kernel
theorem dX7_readWord_90 : decode cX7_readWord 90 = .ok (.putfield 34, 3) := by decide +kernel
theorem dX7_readWord_93 : decode cX7_readWord 93 = .ok (.iinc 2 1, 3) := by decide +kernel
theorem dX7_readWord_96 : decode cX7_readWord 96 = .ok (.goto (-72), 3) := by decide +kernel
theorem dX7_readWord_99 : decode cX7_readWord 99 = .ok (.aload_n 0, 1) := by decide +kernel
theorem dX7_readWord_100 : decode cX7_readWord 100 = .ok (.iload_n 2, 1) := by decide +kernel
theorem dX7_readWord_101 : decode cX7_readWord 101 = .ok (.putfield 25, 3) := by decide +kernel
theorem dX7_readWord_104 : decode cX7_readWord 104 = .ok (.aload_n 0, 1) := by decide +kernel
theorem dX7_readWord_105 : decode cX7_readWord 105 = .ok (.aload_n 0, 1) := by decide +kernel
theorem dX7_readWord_106 : decode cX7_readWord 106 = .ok (.aload_n 0, 1) := by decide +kernel
theorem dX7_readWord_107 : decode cX7_readWord 107 = .ok (.getfield 34, 3) := by decide +kernel
theorem dX7_readWord_110 : decode cX7_readWord 110 = .ok (.invokevirtual 93, 3) := by decide +kernel
theorem dX7_readWord_113 : decode cX7_readWord 113 = .ok (.putfield 28, 3) := by decide +kernel
theorem dX7_readWord_116 : decode cX7_readWord 116 = .ok (.return_, 1) := by decide +kernel
theorem dX7_readNumber_0 : decode cX7_readNumber 0 = .ok (.iload_n 1, 1) := by decide +kernel
theorem dX7_readNumber_1 : decode cX7_readNumber 1 = .ok (.ifCond .eq 13, 3) := by decide +kernel
theorem dX7_readNumber_4 : decode cX7_readNumber 4 = .ok (.aload_n 0, 1) := by decide +kernel
theorem dX7_readNumber_5 : decode cX7_readNumber 5 = .ok (.iconst 1, 1) := by decide +kernel
theorem dX7_readNumber_6 : decode cX7_readNumber 6 = .ok (.aload_n 0, 1) := by decide +kernel
theorem dX7_readNumber_7 : decode cX7_readNumber 7 = .ok (.getfield 31, 3) := by decide +kernel
theorem dX7_readNumber_10 : decode cX7_readNumber 10 = .ok (.invokevirtual 89, 3) := by decide +kernel
theorem dX7_readNumber_13 : decode cX7_readNumber 13 = .ok (.return_, 1) := by decide +kernel
theorem dX7_readNumber_14 : decode cX7_readNumber 14 = .ok (.aload_n 0, 1) := by decide +kernel
theorem dX7_readNumber_15 : decode cX7_readNumber 15 = .ok (.iconst 0, 1) := by decide +kernel
theorem dX7_readNumber_16 : decode cX7_readNumber 16 = .ok (.putfield 34, 3) := by decide +kernel
theorem dX7_readNumber_19 : decode cX7_readNumber 19 = .ok (.aload_n 0, 1) := by decide +kernel
theorem dX7_readNumber_20 : decode cX7_readNumber 20 = .ok (.getfield 31, 3) := by decide +kernel
theorem dX7_readNumber_23 : decode cX7_readNumber 23 = .ok (.istore_n 2, 1) := by decide +kernel
theorem dX7_readNumber_24 : decode cX7_readNumber 24 = .ok (.iload_n 2, 1) := by decide +kernel
theorem dX7_readNumber_25 : decode cX7_readNumber 25 = .ok (.aload_n 0, 1) := by decide +kernel
theorem dX7_readNumber_26 : decode cX7_readNumber 26 = .ok (.getfield 21, 3) := by decide +kernel
theorem dX7_readNumber_29 : decode cX7_readNumber 29 = .ok (.if_icmp .ge 59, 3) := by decide +kernel
theorem dX7_readNumber_32 : decode cX7_readNumber 32 = .ok (.aload_n 0, 1) := by decide +kernel
theorem dX7_readNumber_33 : decode cX7_readNumber 33 = .ok (.getfield 17, 3) := by decide +kernel
theorem dX7_readNumber_36 : decode cX7_readNumber 36 = .ok (.iload_n 2, 1) := by decide +kernel
theorem dX7_readNumber_37 : decode cX7_readNumber 37 = .ok (.baload, 1) := by decide +kernel
theorem dX7_readNumber_38 : decode cX7_readNumber 38 = .ok (.invokestatic 77, 3) := by decide +kernel
theorem dX7_readNumber_41 : decode cX7_readNumber 41 = .ok (.ifCond .eq 47, 3) := by decide +kernel
theorem dX7_readNumber_44 : decode cX7_readNumber 44 = .ok (.iload_n 2, 1) := by decide +kernel
theorem dX7_readNumber_45 : decode cX7_readNumber 45 = .ok (.aload_n 0, 1) := by decide +kernel
theorem dX7_readNumber_46 : decode cX7_readNumber 46 = .ok (.getfield 31, 3) := by decide +kernel
theorem dX7_readNumber_49 : decode cX7_readNumber 49 = .ok (.isub, 1) := by decide +kernel
theorem dX7_readNumber_50 : decode cX7_readNumber 50 = .ok (.iconst 4, 1) := by decide +kernel
theorem dX7_readNumber_51 : decode cX7_readNumber 51 = .ok (.if_icmp .lt 10, 3) := by decide +kernel
theorem dX7_readNumber_54 : decode cX7_readNumber 54 = .ok (.aload_n 0, 1) := by decide +kernel
theorem dX7_readNumber_55 : decode cX7_readNumber 55 = .ok (.iconst 1, 1) := by decide +kernel
theorem dX7_readNumber_56 : decode cX7_readNumber 56 = .ok (.iload_n 2, 1) := by decide +kernel
theorem dX7_readNumber_57 : decode cX7_readNumber 57 = .ok (.invokevirtual 89, 3) := by decide +kernel
theorem dX7_readNumber_60 : decode cX7_readNumber 60 = .ok (.return_, 1) := by decide +kernel
theorem dX7_readNumber_61 : decode cX7_readNumber 61 = .ok (.aload_n 0, 1) := by decide +kernel
theorem dX7_readNumber_62 : decode cX7_readNumber 62 = .ok (.bipush 10, 2) := by decide +kernel
theorem dX7_readNumber_64 : decode cX7_readNumber 64 = .ok (.aload_n 0, 1) := by decide +kernel
theorem dX7_readNumber_65 : decode cX7_readNumber 65 = .ok (.getfield 34, 3) := by decide +kernel
theorem dX7_readNumber_68 : decode cX7_readNumber 68 = .ok (.imul, 1) := by decide +kernel
theorem dX7_readNumber_69 : decode cX7_readNumber 69 = .ok (.aload_n 0, 1) := by decide +kernel
theorem dX7_readNumber_70 : decode cX7_readNumber 70 = .ok (.getfield 17, 3) := by decide +kernel
theorem dX7_readNumber_73 : decode cX7_readNumber 73 = .ok (.iload_n 2, 1) := by decide +kernel
theorem dX7_readNumber_74 : decode cX7_readNumber 74 = .ok (.baload, 1) := by decide +kernel
theorem dX7_readNumber_75 : decode cX7_readNumber 75 = .ok (.iadd, 1) := by decide +kernel
theorem dX7_readNumber_76 : decode cX7_readNumber 76 = .ok (.bipush 48, 2) := by decide +kernel
theorem dX7_readNumber_78 : decode cX7_readNumber 78 = .ok (.isub, 1) := by decide +kernel
theorem dX7_readNumber_79 : decode cX7_readNumber 79 = .ok (.putfield 34, 3) := by decide +kernel
theorem dX7_readNumber_82 : decode cX7_readNumber 82 = .ok (.iinc 2 1, 3) := by decide +kernel
theorem dX7_readNumber_85 : decode cX7_readNumber 85 = .ok (.goto (-61), 3) := by decide +kernel
theorem dX7_readNumber_88 : decode cX7_readNumber 88 = .ok (.aload_n 0, 1) := by decide +kernel
theorem dX7_readNumber_89 : decode cX7_readNumber 89 = .ok (.iload_n 2, 1) := by decide +kernel
theorem dX7_readNumber_90 : decode cX7_readNumber 90 = .ok (.putfield 25, 3) := by decide +kernel
theorem dX7_readNumber_93 : decode cX7_readNumber 93 = .ok (.aload_n 0, 1) := by decide +kernel
theorem dX7_readNumber_94 : decode cX7_readNumber 94 = .ok (.sipush 283, 3) := by decide +kernel
theorem dX7_readNumber_97 : decode cX7_readNumber 97 = .ok (.putfield 28, 3) := by decide +kernel
theorem dX7_readNumber_100 : decode cX7_readNumber 100 = .ok (.return_, 1) := by decide +kernel
theorem dX7_tokenOf_0 : decode cX7_tokenOf 0 = .ok (.iconst 0, 1) := by decide +kernel
theorem dX7_tokenOf_1 : decode cX7_tokenOf 1 = .ok (.istore_n 2, 1) := by decide +kernel
theorem dX7_tokenOf_2 : decode cX7_tokenOf 2 = .ok (.iload_n 2, 1) := by decide +kernel
theorem dX7_tokenOf_3 : decode cX7_tokenOf 3 = .ok (.aload_n 0, 1) := by decide +kernel
theorem dX7_tokenOf_4 : decode cX7_tokenOf 4 = .ok (.getfield 11, 3) := by decide +kernel
theorem dX7_tokenOf_7 : decode cX7_tokenOf 7 = .ok (.arraylength, 1) := by decide +kernel
theorem dX7_tokenOf_8 : decode cX7_tokenOf 8 = .ok (.if_icmp .ge 25, 3) := by decide +kernel
theorem dX7_tokenOf_11 : decode cX7_tokenOf 11 = .ok (.aload_n 0, 1) := by decide +kernel
theorem dX7_tokenOf_12 : decode cX7_tokenOf 12 = .ok (.getfield 11, 3) := by decide +kernel
theorem dX7_tokenOf_15 : decode cX7_tokenOf 15 = .ok (.iload_n 2, 1) := by decide +kernel
theorem dX7_tokenOf_16 : decode cX7_tokenOf 16 = .ok (.iaload, 1) := by decide +kernel
theorem dX7_tokenOf_17 : decode cX7_tokenOf 17 = .ok (.iload_n 1, 1) := by decide +kernel
theorem dX7_tokenOf_18 : decode cX7_tokenOf 18 = .ok (.if_icmp .ne 9, 3) := by decide +kernel
theorem dX7_tokenOf_21 : decode cX7_tokenOf 21 = .ok (.sipush 256, 3) := by decide +kernel
theorem dX7_tokenOf_24 : decode cX7_tokenOf 24 = .ok (.iload_n 2, 1) := by decide +kernel
theorem dX7_tokenOf_25 : decode cX7_tokenOf 25 = .ok (.iadd, 1) := by decide +kernel
theorem dX7_tokenOf_26 : decode cX7_tokenOf 26 = .ok (.ireturn, 1) := by decide +kernel
theorem dX7_tokenOf_27 : decode cX7_tokenOf 27 = .ok (.iinc 2 1, 3) := by decide +kernel
theorem dX7_tokenOf_30 : decode cX7_tokenOf 30 = .ok (.goto (-28), 3) := by decide +kernel
theorem dX7_tokenOf_33 : decode cX7_tokenOf 33 = .ok (.sipush 282, 3) := by decide +kernel
theorem dX7_tokenOf_36 : decode cX7_tokenOf 36 = .ok (.ireturn, 1) := by decide +kernel
theorem dX7_isBlank_0 : decode cX7_isBlank 0 = .ok (.iload_n 0, 1) := by decide +kernel
theorem dX7_isBlank_1 : decode cX7_isBlank 1 = .ok (.bipush 10, 2) := by decide +kernel
theorem dX7_isBlank_3 : decode cX7_isBlank 3 = .ok (.if_icmp .eq 9, 3) := by decide +kernel
theorem dX7_isBlank_6 : decode cX7_isBlank 6 = .ok (.iload_n 0, 1) := by decide +kernel
theorem dX7_isBlank_7 : decode cX7_isBlank 7 = .ok (.bipush 32, 2) := by decide +kernel
theorem dX7_isBlank_9 : decode cX7_isBlank 9 = .ok (.if_icmp .ne 7, 3) := by decide +kernel
theorem dX7_isBlank_12 : decode cX7_isBlank 12 = .ok (.iconst 1, 1) := by decide +kernel
theorem dX7_isBlank_13 : decode cX7_isBlank 13 = .ok (.goto 4, 3) := by decide +kernel
theorem dX7_isBlank_16 : decode cX7_isBlank 16 = .ok (.iconst 0, 1) := by decide +kernel
theorem dX7_isBlank_17 : decode cX7_isBlank 17 = .ok (.ireturn, 1) := by decide +kernel
theorem dX7_isLetter_0 : decode cX7_isLetter 0 = .ok (.iload_n 0, 1) := by decide +kernel
theorem dX7_isLetter_1 : decode cX7_isLetter 1 = .ok (.bipush 97, 2) := by decide +kernel
theorem dX7_isLetter_3 : decode cX7_isLetter 3 = .ok (.if_icmp .lt 13, 3) := by decide +kernel
theorem dX7_isLetter_6 : decode cX7_isLetter 6 = .ok (.iload_n 0, 1) := by decide +kernel
theorem dX7_isLetter_7 : decode cX7_isLetter 7 = .ok (.bipush 122, 2) := by decide +kernel
theorem dX7_isLetter_9 : decode cX7_isLetter 9 = .ok (.if_icmp .gt 7, 3) := by decide +kernel
theorem dX7_isLetter_12 : decode cX7_isLetter 12 = .ok (.iconst 1, 1) := by decide +kernel
theorem dX7_isLetter_13 : decode cX7_isLetter 13 = .ok (.goto 4, 3) := by decide +kernel
theorem dX7_isLetter_16 : decode cX7_isLetter 16 = .ok (.iconst 0, 1) := by decide +kernel
theorem dX7_isLetter_17 : decode cX7_isLetter 17 = .ok (.ireturn, 1) := by decide +kernel
theorem dX7_isDigit_0 : decode cX7_isDigit 0 = .ok (.iload_n 0, 1) := by decide +kernel
theorem dX7_isDigit_1 : decode cX7_isDigit 1 = .ok (.bipush 48, 2) := by decide +kernel
theorem dX7_isDigit_3 : decode cX7_isDigit 3 = .ok (.if_icmp .lt 13, 3) := by decide +kernel
theorem dX7_isDigit_6 : decode cX7_isDigit 6 = .ok (.iload_n 0, 1) := by decide +kernel
theorem dX7_isDigit_7 : decode cX7_isDigit 7 = .ok (.bipush 57, 2) := by decide +kernel
theorem dX7_isDigit_9 : decode cX7_isDigit 9 = .ok (.if_icmp .gt 7, 3) := by decide +kernel
theorem dX7_isDigit_12 : decode cX7_isDigit 12 = .ok (.iconst 1, 1) := by decide +kernel
theorem dX7_isDigit_13 : decode cX7_isDigit 13 = .ok (.goto 4, 3) := by decide +kernel
theorem dX7_isDigit_16 : decode cX7_isDigit 16 = .ok (.iconst 0, 1) := by decide +kernel
theorem dX7_isDigit_17 : decode cX7_isDigit 17 = .ok (.ireturn, 1) := by decide +kernel
theorem dX8_init_0 : decode cX8_init 0 = .ok (.aload_n 0, 1) := by decide +kernel
theorem dX8_init_1 : decode cX8_init 1 = .ok (.invokespecial 3, 3) := by decide +kernel
theorem dX8_init_4 : decode cX8_init 4 = .ok (.aload_n 0, 1) := by decide +kernel
theorem dX8_init_5 : decode cX8_init 5 = .ok (.iconst 0, 1) := by decide +kernel
theorem dX8_init_6 : decode cX8_init 6 = .ok (.putfield 9, 3) := by decide +kernel
theorem dX8_init_9 : decode cX8_init 9 = .ok (.aload_n 0, 1) := by decide +kernel
theorem dX8_init_10 : decode cX8_init 10 = .ok (.iconst (-1), 1) := by decide +kernel
theorem dX8_init_11 : decode cX8_init 11 = .ok (.putfield 15, 3) := by decide +kernel
theorem dX8_init_14 : decode cX8_init 14 = .ok (.aload_n 0, 1) := by decide +kernel
theorem dX8_init_15 : decode cX8_init 15 = .ok (.iconst (-1), 1) := by decide +kernel
theorem dX8_init_16 : decode cX8_init 16 = .ok (.putfield 18, 3) := by decide +kernel
theorem dX8_init_19 : decode cX8_init 19 = .ok (.aload_n 0, 1) := by decide +kernel
theorem dX8_init_20 : decode cX8_init 20 = .ok (.iconst 0, 1) := by decide +kernel
theorem dX8_init_21 : decode cX8_init 21 = .ok (.putfield 21, 3) := by decide +kernel
theorem dX8_init_24 : decode cX8_init 24 = .ok (.aload_n 0, 1) := by decide +kernel
theorem dX8_init_25 : decode cX8_init 25 = .ok (.bipush 48, 2) := by decide +kernel
theorem dX8_init_27 : decode cX8_init 27 = .ok (.newarray .int, 2) := by decide +kernel
theorem dX8_init_29 : decode cX8_init 29 = .ok (.putfield 24, 3) := by decide +kernel
theorem dX8_init_32 : decode cX8_init 32 = .ok (.aload_n 0, 1) := by decide +kernel
theorem dX8_init_33 : decode cX8_init 33 = .ok (.bipush 100, 2) := by decide +kernel
theorem dX8_init_35 : decode cX8_init 35 = .ok (.newarray .int, 2) := by decide +kernel
theorem dX8_init_37 : decode cX8_init 37 = .ok (.putfield 28, 3) := by decide +kernel
theorem dX8_init_40 : decode cX8_init 40 = .ok (.return_, 1) := by decide +kernel
theorem dX8_read_0 : decode cX8_read 0 = .ok (.iload_n 2, 1) := by decide +kernel
theorem dX8_read_1 : decode cX8_read 1 = .ok (.iconst 3, 1) := by decide +kernel
theorem dX8_read_2 : decode cX8_read 2 = .ok (.if_icmp .lt 18, 3) := by decide +kernel
theorem dX8_read_5 : decode cX8_read 5 = .ok (.iload_n 2, 1) := by decide +kernel
theorem dX8_read_6 : decode cX8_read 6 = .ok (.aload_n 0, 1) := by decide +kernel
theorem dX8_read_7 : decode cX8_read 7 = .ok (.getfield 24, 3) := by decide +kernel
theorem dX8_read_10 : decode cX8_read 10 = .ok (.arraylength, 1) := by decide +kernel
theorem dX8_read_11 : decode cX8_read 11 = .ok (.if_icmp .gt 9, 3) := by decide +kernel
theorem dX8_read_14 : decode cX8_read 14 = .ok (.iload_n 2, 1) := by decide +kernel
theorem dX8_read_15 : decode cX8_read 15 = .ok (.iconst 3, 1) := by decide +kernel
theorem dX8_read_16 : decode cX8_read 16 = .ok (.irem, 1) := by decide +kernel
theorem dX8_read_17 : decode cX8_read 17 = .ok (.ifCond .eq 5, 3) := by decide +kernel
theorem dX8_read_20 : decode cX8_read 20 = .ok (.iconst 0, 1) := by decide +kernel
theorem dX8_read_21 : decode cX8_read 21 = .ok (.ireturn, 1) := by decide +kernel
theorem dX8_read_22 : decode cX8_read 22 = .ok (.iconst 0, 1) := by decide +kernel
theorem dX8_read_23 : decode cX8_read 23 = .ok (.istore 4, 2) := by decide +kernel
theorem dX8_read_25 : decode cX8_read 25 = .ok (.iload 4, 2) := by decide +kernel
theorem dX8_read_27 : decode cX8_read 27 = .ok (.iload_n 2, 1) := by decide +kernel
theorem dX8_read_28 : decode cX8_read 28 = .ok (.if_icmp .ge 65, 3) := by decide +kernel
theorem dX8_read_31 : decode cX8_read 31 = .ok (.aload_n 1, 1) := by decide +kernel
theorem dX8_read_32 : decode cX8_read 32 = .ok (.iload 4, 2) := by decide +kernel
theorem dX8_read_34 : decode cX8_read 34 = .ok (.baload, 1) := by decide +kernel
theorem dX8_read_35 : decode cX8_read 35 = .ok (.sipush 255, 3) := by decide +kernel
theorem dX8_read_38 : decode cX8_read 38 = .ok (.iand, 1) := by decide +kernel
theorem dX8_read_39 : decode cX8_read 39 = .ok (.iload_n 3, 1) := by decide +kernel
theorem dX8_read_40 : decode cX8_read 40 = .ok (.if_icmp .ge 37, 3) := by decide +kernel
theorem dX8_read_43 : decode cX8_read 43 = .ok (.aload_n 1, 1) := by decide +kernel
theorem dX8_read_44 : decode cX8_read 44 = .ok (.iload 4, 2) := by decide +kernel
theorem dX8_read_46 : decode cX8_read 46 = .ok (.iconst 1, 1) := by decide +kernel
theorem dX8_read_47 : decode cX8_read 47 = .ok (.iadd, 1) := by decide +kernel
theorem dX8_read_48 : decode cX8_read 48 = .ok (.baload, 1) := by decide +kernel
theorem dX8_read_49 : decode cX8_read 49 = .ok (.sipush 255, 3) := by decide +kernel
theorem dX8_read_52 : decode cX8_read 52 = .ok (.iand, 1) := by decide +kernel
theorem dX8_read_53 : decode cX8_read 53 = .ok (.bipush 6, 2) := by decide +kernel
theorem dX8_read_55 : decode cX8_read 55 = .ok (.if_icmp .ge 22, 3) := by decide +kernel
theorem dX8_read_58 : decode cX8_read 58 = .ok (.aload_n 1, 1) := by decide +kernel
theorem dX8_read_59 : decode cX8_read 59 = .ok (.iload 4, 2) := by decide +kernel
theorem dX8_read_61 : decode cX8_read 61 = .ok (.iconst 2, 1) := by decide +kernel
theorem dX8_read_62 : decode cX8_read 62 = .ok (.iadd, 1) := by decide +kernel
theorem dX8_read_63 : decode cX8_read 63 = .ok (.baload, 1) := by decide +kernel
theorem dX8_read_64 : decode cX8_read 64 = .ok (.sipush 255, 3) := by decide +kernel
theorem dX8_read_67 : decode cX8_read 67 = .ok (.iand, 1) := by decide +kernel
theorem dX8_read_68 : decode cX8_read 68 = .ok (.bipush 99, 2) := by decide +kernel
theorem dX8_read_70 : decode cX8_read 70 = .ok (.if_icmp .gt 7, 3) := by decide +kernel
theorem dX8_read_73 : decode cX8_read 73 = .ok (.iconst 1, 1) := by decide +kernel
theorem dX8_read_74 : decode cX8_read 74 = .ok (.goto 4, 3) := by decide +kernel
theorem dX8_read_77 : decode cX8_read 77 = .ok (.iconst 0, 1) := by decide +kernel
theorem dX8_read_78 : decode cX8_read 78 = .ok (.istore 5, 2) := by decide +kernel
theorem dX8_read_80 : decode cX8_read 80 = .ok (.iload 5, 2) := by decide +kernel
theorem dX8_read_82 : decode cX8_read 82 = .ok (.ifCond .ne 5, 3) := by decide +kernel
theorem dX8_read_85 : decode cX8_read 85 = .ok (.iconst 0, 1) := by decide +kernel
theorem dX8_read_86 : decode cX8_read 86 = .ok (.ireturn, 1) := by decide +kernel
theorem dX8_read_87 : decode cX8_read 87 = .ok (.iinc 4 3, 3) := by decide +kernel
theorem dX8_read_90 : decode cX8_read 90 = .ok (.goto (-65), 3) := by decide +kernel
theorem dX8_read_93 : decode cX8_read 93 = .ok (.iconst 0, 1) := by decide +kernel
theorem dX8_read_94 : decode cX8_read 94 = .ok (.istore 4, 2) := by decide +kernel
theorem dX8_read_96 : decode cX8_read 96 = .ok (.iload 4, 2) := by decide +kernel
theorem dX8_read_98 : decode cX8_read 98 = .ok (.iload_n 2, 1) := by decide +kernel
theorem dX8_read_99 : decode cX8_read 99 = .ok (.if_icmp .ge 24, 3) := by decide +kernel
theorem dX8_read_102 : decode cX8_read 102 = .ok (.aload_n 0, 1) := by decide +kernel
theorem dX8_read_103 : decode cX8_read 103 = .ok (.getfield 24, 3) := by decide +kernel
theorem dX8_read_106 : decode cX8_read 106 = .ok (.iload 4, 2) := by decide +kernel
theorem dX8_read_108 : decode cX8_read 108 = .ok (.aload_n 1, 1) := by decide +kernel
theorem dX8_read_109 : decode cX8_read 109 = .ok (.iload 4, 2) := by decide +kernel
theorem dX8_read_111 : decode cX8_read 111 = .ok (.baload, 1) := by decide +kernel
theorem dX8_read_112 : decode cX8_read 112 = .ok (.sipush 255, 3) := by decide +kernel
theorem dX8_read_115 : decode cX8_read 115 = .ok (.iand, 1) := by decide +kernel
theorem dX8_read_116 : decode cX8_read 116 = .ok (.iastore, 1) := by decide +kernel
theorem dX8_read_117 : decode cX8_read 117 = .ok (.iinc 4 1, 3) := by decide +kernel
theorem dX8_read_120 : decode cX8_read 120 = .ok (.goto (-24), 3) := by decide +kernel
theorem dX8_read_123 : decode cX8_read 123 = .ok (.aload_n 0, 1) := by decide +kernel
theorem dX8_read_124 : decode cX8_read 124 = .ok (.iload_n 2, 1) := by decide +kernel
theorem dX8_read_125 : decode cX8_read 125 = .ok (.iconst 3, 1) := by decide +kernel
theorem dX8_read_126 : decode cX8_read 126 = .ok (.idiv, 1) := by decide +kernel
theorem dX8_read_127 : decode cX8_read 127 = .ok (.putfield 9, 3) := by decide +kernel
theorem dX8_read_130 : decode cX8_read 130 = .ok (.iconst 1, 1) := by decide +kernel
theorem dX8_read_131 : decode cX8_read 131 = .ok (.ireturn, 1) := by decide +kernel
theorem dX8_heatsLeft_0 : decode cX8_heatsLeft 0 = .ok (.iconst 0, 1) := by decide +kernel
theorem dX8_heatsLeft_1 : decode cX8_heatsLeft 1 = .ok (.istore_n 3, 1) := by decide +kernel
theorem dX8_heatsLeft_2 : decode cX8_heatsLeft 2 = .ok (.iconst 0, 1) := by decide +kernel
theorem dX8_heatsLeft_3 : decode cX8_heatsLeft 3 = .ok (.istore 4, 2) := by decide +kernel
theorem dX8_heatsLeft_5 : decode cX8_heatsLeft 5 = .ok (.iload 4, 2) := by decide +kernel
theorem dX8_heatsLeft_7 : decode cX8_heatsLeft 7 = .ok (.bipush 20, 2) := by decide +kernel
theorem dX8_heatsLeft_9 : decode cX8_heatsLeft 9 = .ok (.if_icmp .gt 27, 3) := by decide +kernel
theorem dX8_heatsLeft_12 : decode cX8_heatsLeft 12 = .ok (.aload_n 0, 1) := by decide +kernel
theorem dX8_heatsLeft_13 : decode cX8_heatsLeft 13 = .ok (.aload_n 1, 1) := by decide +kernel
theorem dX8_heatsLeft_14 : decode cX8_heatsLeft 14 = .ok (.iload_n 2, 1) := by decide +kernel
theorem dX8_heatsLeft_15 : decode cX8_heatsLeft 15 = .ok (.iload 4, 2) := by decide +kernel
theorem dX8_heatsLeft_17 : decode cX8_heatsLeft 17 = .ok (.invokevirtual 31, 3) := by decide +kernel
theorem dX8_heatsLeft_20 : decode cX8_heatsLeft 20 = .ok (.ifCond .eq 10, 3) := by decide +kernel
theorem dX8_heatsLeft_23 : decode cX8_heatsLeft 23 = .ok (.iload_n 3, 1) := by decide +kernel
theorem dX8_heatsLeft_24 : decode cX8_heatsLeft 24 = .ok (.iconst 1, 1) := by decide +kernel
theorem dX8_heatsLeft_25 : decode cX8_heatsLeft 25 = .ok (.iload 4, 2) := by decide +kernel
theorem dX8_heatsLeft_27 : decode cX8_heatsLeft 27 = .ok (.ishl, 1) := by decide +kernel
theorem dX8_heatsLeft_28 : decode cX8_heatsLeft 28 = .ok (.ior, 1) := by decide +kernel
theorem dX8_heatsLeft_29 : decode cX8_heatsLeft 29 = .ok (.istore_n 3, 1) := by decide +kernel
theorem dX8_heatsLeft_30 : decode cX8_heatsLeft 30 = .ok (.iinc 4 1, 3) := by decide +kernel
theorem dX8_heatsLeft_33 : decode cX8_heatsLeft 33 = .ok (.goto (-28), 3) := by decide +kernel
theorem dX8_heatsLeft_36 : decode cX8_heatsLeft 36 = .ok (.iload_n 3, 1) := by decide +kernel
theorem dX8_heatsLeft_37 : decode cX8_heatsLeft 37 = .ok (.ireturn, 1) := by decide +kernel
theorem dX8_allRingSo_0 : decode cX8_allRingSo 0 = .ok (.iconst 0, 1) := by decide +kernel
theorem dX8_allRingSo_1 : decode cX8_allRingSo 1 = .ok (.istore 4, 2) := by decide +kernel
theorem dX8_allRingSo_3 : decode cX8_allRingSo 3 = .ok (.iload 4, 2) := by decide +kernel
theorem dX8_allRingSo_5 : decode cX8_allRingSo 5 = .ok (.aload_n 0, 1) := by decide +kernel
theorem dX8_allRingSo_6 : decode cX8_allRingSo 6 = .ok (.getfield 9, 3) := by decide +kernel
theorem dX8_allRingSo_9 : decode cX8_allRingSo 9 = .ok (.iconst 3, 1) := by decide +kernel
theorem dX8_allRingSo_10 : decode cX8_allRingSo 10 = .ok (.imul, 1) := by decide +kernel
theorem dX8_allRingSo_11 : decode cX8_allRingSo 11 = .ok (.if_icmp .ge 45, 3) := by decide +kernel
theorem dX8_allRingSo_14 : decode cX8_allRingSo 14 = .ok (.aload_n 1, 1) := by decide +kernel
theorem dX8_allRingSo_15 : decode cX8_allRingSo 15 = .ok (.aload_n 0, 1) := by decide +kernel
theorem dX8_allRingSo_16 : decode cX8_allRingSo 16 = .ok (.getfield 24, 3) := by decide +kernel
theorem dX8_allRingSo_19 : decode cX8_allRingSo 19 = .ok (.iload 4, 2) := by decide +kernel
theorem dX8_allRingSo_21 : decode cX8_allRingSo 21 = .ok (.iaload, 1) := by decide +kernel
theorem dX8_allRingSo_22 : decode cX8_allRingSo 22 = .ok (.iload_n 3, 1) := by decide +kernel
theorem dX8_allRingSo_23 : decode cX8_allRingSo 23 = .ok (.aload_n 0, 1) := by decide +kernel
theorem dX8_allRingSo_24 : decode cX8_allRingSo 24 = .ok (.getfield 24, 3) := by decide +kernel
theorem dX8_allRingSo_27 : decode cX8_allRingSo 27 = .ok (.iload 4, 2) := by decide +kernel
theorem dX8_allRingSo_29 : decode cX8_allRingSo 29 = .ok (.iconst 1, 1) := by decide +kernel
theorem dX8_allRingSo_30 : decode cX8_allRingSo 30 = .ok (.iadd, 1) := by decide +kernel
theorem dX8_allRingSo_31 : decode cX8_allRingSo 31 = .ok (.iaload, 1) := by decide +kernel
theorem dX8_allRingSo_32 : decode cX8_allRingSo 32 = .ok (.iload_n 2, 1) := by decide +kernel
theorem dX8_allRingSo_33 : decode cX8_allRingSo 33 = .ok (.invokevirtual 35, 3) := by decide +kernel
theorem dX8_allRingSo_36 : decode cX8_allRingSo 36 = .ok (.aload_n 0, 1) := by decide +kernel
theorem dX8_allRingSo_37 : decode cX8_allRingSo 37 = .ok (.getfield 24, 3) := by decide +kernel
theorem dX8_allRingSo_40 : decode cX8_allRingSo 40 = .ok (.iload 4, 2) := by decide +kernel
theorem dX8_allRingSo_42 : decode cX8_allRingSo 42 = .ok (.iconst 2, 1) := by decide +kernel
theorem dX8_allRingSo_43 : decode cX8_allRingSo 43 = .ok (.iadd, 1) := by decide +kernel
theorem dX8_allRingSo_44 : decode cX8_allRingSo 44 = .ok (.iaload, 1) := by decide +kernel
theorem dX8_allRingSo_45 : decode cX8_allRingSo 45 = .ok (.if_icmp .eq 5, 3) := by decide +kernel
theorem dX8_allRingSo_48 : decode cX8_allRingSo 48 = .ok (.iconst 0, 1) := by decide +kernel
theorem dX8_allRingSo_49 : decode cX8_allRingSo 49 = .ok (.ireturn, 1) := by decide +kernel
theorem dX8_allRingSo_50 : decode cX8_allRingSo 50 = .ok (.iinc 4 3, 3) := by decide +kernel
theorem dX8_allRingSo_53 : decode cX8_allRingSo 53 = .ok (.goto (-50), 3) := by decide +kernel
theorem dX8_allRingSo_56 : decode cX8_allRingSo 56 = .ok (.iconst 1, 1) := by decide +kernel
theorem dX8_allRingSo_57 : decode cX8_allRingSo 57 = .ok (.ireturn, 1) := by decide +kernel
theorem dX8_findTelling_0 : decode cX8_findTelling 0 = .ok (.aload_n 0, 1) := by decide +kernel
theorem dX8_findTelling_1 : decode cX8_findTelling 1 = .ok (.aload_n 1, 1) := by decide +kernel
theorem dX8_findTelling_2 : decode cX8_findTelling 2 = .ok (.iload_n 2, 1) := by decide +kernel
theorem dX8_findTelling_3 : decode cX8_findTelling 3 = .ok (.invokevirtual 41, 3) := by decide +kernel
theorem dX8_findTelling_6 : decode cX8_findTelling 6 = .ok (.istore_n 3, 1) := by decide +kernel
theorem dX8_findTelling_7 : decode cX8_findTelling 7 = .ok (.iload_n 3, 1) := by decide +kernel
theorem dX8_findTelling_8 : decode cX8_findTelling 8 = .ok (.ifCond .ne 5, 3) := by decide +kernel
theorem dX8_findTelling_11 : decode cX8_findTelling 11 = .ok (.iconst 0, 1) := by decide +kernel
theorem dX8_findTelling_12 : decode cX8_findTelling 12 = .ok (.ireturn, 1) := by decide +kernel
theorem dX8_findTelling_13 : decode cX8_findTelling 13 = .ok (.aload_n 0, 1) := by decide +kernel
theorem dX8_findTelling_14 : decode cX8_findTelling 14 = .ok (.iconst (-1), 1) := by decide +kernel
theorem dX8_findTelling_15 : decode cX8_findTelling 15 = .ok (.putfield 15, 3) := by decide +kernel
theorem dX8_findTelling_18 : decode cX8_findTelling 18 = .ok (.aload_n 0, 1) := by decide +kernel
theorem dX8_findTelling_19 : decode cX8_findTelling 19 = .ok (.bipush 22, 2) := by decide +kernel
theorem dX8_findTelling_21 : decode cX8_findTelling 21 = .ok (.putfield 21, 3) := by decide +kernel
theorem dX8_findTelling_24 : decode cX8_findTelling 24 = .ok (.iconst 0, 1) := by decide +kernel
theorem dX8_findTelling_25 : decode cX8_findTelling 25 = .ok (.istore 4, 2) := by decide +kernel
theorem dX8_findTelling_27 : decode cX8_findTelling 27 = .ok (.iload 4, 2) := by decide +kernel
theorem dX8_findTelling_29 : decode cX8_findTelling 29 = .ok (.aload_n 1, 1) := by decide +kernel
theorem dX8_findTelling_30 : decode cX8_findTelling 30 = .ok (.getfield 45, 3) := by decide +kernel
theorem dX8_findTelling_33 : decode cX8_findTelling 33 = .ok (.getfield 49, 3) := by decide +kernel
theorem dX8_findTelling_36 : decode cX8_findTelling 36 = .ok (.if_icmp .ge 65, 3) := by decide +kernel
theorem dX8_findTelling_39 : decode cX8_findTelling 39 = .ok (.iconst 0, 1) := by decide +kernel
theorem dX8_findTelling_40 : decode cX8_findTelling 40 = .ok (.istore 5, 2) := by decide +kernel
theorem dX8_findTelling_42 : decode cX8_findTelling 42 = .ok (.iload 5, 2) := by decide +kernel
theorem dX8_findTelling_44 : decode cX8_findTelling 44 = .ok (.bipush 6, 2) := by decide +kernel
theorem dX8_findTelling_46 : decode cX8_findTelling 46 = .ok (.if_icmp .ge 49, 3) := by decide +kernel
theorem dX8_findTelling_49 : decode cX8_findTelling 49 = .ok (.aload_n 0, 1) := by decide +kernel
theorem dX8_findTelling_50 : decode cX8_findTelling 50 = .ok (.aload_n 1, 1) := by decide +kernel
theorem dX8_findTelling_51 : decode cX8_findTelling 51 = .ok (.iload_n 2, 1) := by decide +kernel
theorem dX8_findTelling_52 : decode cX8_findTelling 52 = .ok (.iload 4, 2) := by decide +kernel
theorem dX8_findTelling_54 : decode cX8_findTelling 54 = .ok (.iload 5, 2) := by decide +kernel
theorem dX8_findTelling_56 : decode cX8_findTelling 56 = .ok (.iload_n 3, 1) := by decide +kernel
theorem dX8_findTelling_57 : decode cX8_findTelling 57 = .ok (.invokevirtual 54, 3) := by decide +kernel
theorem dX8_findTelling_60 : decode cX8_findTelling 60 = .ok (.istore 6, 2) := by decide +kernel
theorem dX8_findTelling_62 : decode cX8_findTelling 62 = .ok (.iload 6, 2) := by decide +kernel
theorem dX8_findTelling_64 : decode cX8_findTelling 64 = .ok (.aload_n 0, 1) := by decide +kernel
theorem dX8_findTelling_65 : decode cX8_findTelling 65 = .ok (.getfield 21, 3) := by decide +kernel
theorem dX8_findTelling_68 : decode cX8_findTelling 68 = .ok (.if_icmp .ge 21, 3) := by decide +kernel
theorem dX8_findTelling_71 : decode cX8_findTelling 71 = .ok (.aload_n 0, 1) := by decide +kernel
theorem dX8_findTelling_72 : decode cX8_findTelling 72 = .ok (.iload 4, 2) := by decide +kernel
theorem dX8_findTelling_74 : decode cX8_findTelling 74 = .ok (.putfield 15, 3) := by decide +kernel
theorem dX8_findTelling_77 : decode cX8_findTelling 77 = .ok (.aload_n 0, 1) := by decide +kernel
theorem dX8_findTelling_78 : decode cX8_findTelling 78 = .ok (.iload 5, 2) := by decide +kernel
theorem dX8_findTelling_80 : decode cX8_findTelling 80 = .ok (.putfield 18, 3) := by decide +kernel
theorem dX8_findTelling_83 : decode cX8_findTelling 83 = .ok (.aload_n 0, 1) := by decide +kernel
theorem dX8_findTelling_84 : decode cX8_findTelling 84 = .ok (.iload 6, 2) := by decide +kernel
theorem dX8_findTelling_86 : decode cX8_findTelling 86 = .ok (.putfield 21, 3) := by decide +kernel
theorem dX8_findTelling_89 : decode cX8_findTelling 89 = .ok (.iinc 5 1, 3) := by decide +kernel
theorem dX8_findTelling_92 : decode cX8_findTelling 92 = .ok (.goto (-50), 3) := by decide +kernel
theorem dX8_findTelling_95 : decode cX8_findTelling 95 = .ok (.iinc 4 1, 3) := by decide +kernel
theorem dX8_findTelling_98 : decode cX8_findTelling 98 = .ok (.goto (-71), 3) := by decide +kernel
theorem dX8_findTelling_101 : decode cX8_findTelling 101 = .ok (.aload_n 0, 1) := by decide +kernel
theorem dX8_findTelling_102 : decode cX8_findTelling 102 = .ok (.getfield 15, 3) := by decide +kernel
theorem dX8_findTelling_105 : decode cX8_findTelling 105 = .ok (.iconst (-1), 1) := by decide +kernel
theorem dX8_findTelling_106 : decode cX8_findTelling 106 = .ok (.if_icmp .eq 7, 3) := by decide +kernel
theorem dX8_findTelling_109 : decode cX8_findTelling 109 = .ok (.iconst 1, 1) := by decide +kernel
theorem dX8_findTelling_110 : decode cX8_findTelling 110 = .ok (.goto 4, 3) := by decide +kernel
theorem dX8_findTelling_113 : decode cX8_findTelling 113 = .ok (.iconst 0, 1) := by decide +kernel
theorem dX8_findTelling_114 : decode cX8_findTelling 114 = .ok (.ireturn, 1) := by decide +kernel
theorem dX8_mostLeft_0 : decode cX8_mostLeft 0 = .ok (.aload_n 0, 1) := by decide +kernel
theorem dX8_mostLeft_1 : decode cX8_mostLeft 1 = .ok (.getfield 28, 3) := by decide +kernel
theorem dX8_mostLeft_4 : decode cX8_mostLeft 4 = .ok (.iconst 0, 1) := by decide +kernel
theorem dX8_mostLeft_5 : decode cX8_mostLeft 5 = .ok (.invokestatic 58, 3) := by decide +kernel
theorem dX8_mostLeft_8 : decode cX8_mostLeft 8 = .ok (.iconst 1, 1) := by decide +kernel
theorem dX8_mostLeft_9 : decode cX8_mostLeft 9 = .ok (.istore 6, 2) := by decide +kernel
theorem dX8_mostLeft_11 : decode cX8_mostLeft 11 = .ok (.iconst 0, 1) := by decide +kernel
theorem dX8_mostLeft_12 : decode cX8_mostLeft 12 = .ok (.istore 7, 2) := by decide +kernel
theorem dX8_mostLeft_14 : decode cX8_mostLeft 14 = .ok (.iload 7, 2) := by decide +kernel
theorem dX8_mostLeft_16 : decode cX8_mostLeft 16 = .ok (.bipush 20, 2) := by decide +kernel
theorem dX8_mostLeft_18 : decode cX8_mostLeft 18 = .ok (.if_icmp .gt 66, 3) := by decide +kernel
theorem dX8_mostLeft_21 : decode cX8_mostLeft 21 = .ok (.iload 6, 2) := by decide +kernel
theorem dX8_mostLeft_23 : decode cX8_mostLeft 23 = .ok (.aload_n 0, 1) := by decide +kernel
theorem dX8_mostLeft_24 : decode cX8_mostLeft 24 = .ok (.getfield 21, 3) := by decide +kernel
theorem dX8_mostLeft_27 : decode cX8_mostLeft 27 = .ok (.if_icmp .ge 57, 3) := by decide +kernel
theorem dX8_mostLeft_30 : decode cX8_mostLeft 30 = .ok (.iload 5, 2) := by decide +kernel
theorem dX8_mostLeft_32 : decode cX8_mostLeft 32 = .ok (.iload 7, 2) := by decide +kernel
theorem dX8_mostLeft_34 : decode cX8_mostLeft 34 = .ok (.ishr, 1) := by decide +kernel
theorem dX8_mostLeft_35 : decode cX8_mostLeft 35 = .ok (.iconst 1, 1) := by decide +kernel
theorem dX8_mostLeft_36 : decode cX8_mostLeft 36 = .ok (.iand, 1) := by decide +kernel
theorem dX8_mostLeft_37 : decode cX8_mostLeft 37 = .ok (.iconst 1, 1) := by decide +kernel
theorem dX8_mostLeft_38 : decode cX8_mostLeft 38 = .ok (.if_icmp .ne 40, 3) := by decide +kernel
theorem dX8_mostLeft_41 : decode cX8_mostLeft 41 = .ok (.aload_n 1, 1) := by decide +kernel
theorem dX8_mostLeft_42 : decode cX8_mostLeft 42 = .ok (.iload_n 3, 1) := by decide +kernel
theorem dX8_mostLeft_43 : decode cX8_mostLeft 43 = .ok (.iload 7, 2) := by decide +kernel
theorem dX8_mostLeft_45 : decode cX8_mostLeft 45 = .ok (.iload 4, 2) := by decide +kernel
theorem dX8_mostLeft_47 : decode cX8_mostLeft 47 = .ok (.iload_n 2, 1) := by decide +kernel
theorem dX8_mostLeft_48 : decode cX8_mostLeft 48 = .ok (.invokevirtual 35, 3) := by decide +kernel
theorem dX8_mostLeft_51 : decode cX8_mostLeft 51 = .ok (.istore 8, 2) := by decide +kernel
theorem dX8_mostLeft_53 : decode cX8_mostLeft 53 = .ok (.aload_n 0, 1) := by decide +kernel
theorem dX8_mostLeft_54 : decode cX8_mostLeft 54 = .ok (.getfield 28, 3) := by decide +kernel
theorem dX8_mostLeft_57 : decode cX8_mostLeft 57 = .ok (.iload 8, 2) := by decide +kernel
theorem dX8_mostLeft_59 : decode cX8_mostLeft 59 = .ok (.dup2, 1) := by decide +kernel
theorem dX8_mostLeft_60 : decode cX8_mostLeft 60 = .ok (.iaload, 1) := by decide +kernel
theorem dX8_mostLeft_61 : decode cX8_mostLeft 61 = .ok (.iconst 1, 1) := by decide +kernel
theorem dX8_mostLeft_62 : decode cX8_mostLeft 62 = .ok (.iadd, 1) := by decide +kernel
theorem dX8_mostLeft_63 : decode cX8_mostLeft 63 = .ok (.iastore, 1) := by decide +kernel
theorem dX8_mostLeft_64 : decode cX8_mostLeft 64 = .ok (.iload 6, 2) := by decide +kernel
theorem dX8_mostLeft_66 : decode cX8_mostLeft 66 = .ok (.aload_n 0, 1) := by decide +kernel
theorem dX8_mostLeft_67 : decode cX8_mostLeft 67 = .ok (.getfield 28, 3) := by decide +kernel
theorem dX8_mostLeft_70 : decode cX8_mostLeft 70 = .ok (.iload 8, 2) := by decide +kernel
theorem dX8_mostLeft_72 : decode cX8_mostLeft 72 = .ok (.iaload, 1) := by decide +kernel
theorem dX8_mostLeft_73 : decode cX8_mostLeft 73 = .ok (.invokestatic 64, 3) := by decide +kernel
theorem dX8_mostLeft_76 : decode cX8_mostLeft 76 = .ok (.istore 6, 2) := by decide +kernel
theorem dX8_mostLeft_78 : decode cX8_mostLeft 78 = .ok (.iinc 7 1, 3) := by decide +kernel
theorem dX8_mostLeft_81 : decode cX8_mostLeft 81 = .ok (.goto (-67), 3) := by decide +kernel
theorem dX8_mostLeft_84 : decode cX8_mostLeft 84 = .ok (.iload 6, 2) := by decide +kernel
theorem dX8_mostLeft_86 : decode cX8_mostLeft 86 = .ok (.ireturn, 1) := by decide +kernel
theorem dX9_isWord_0 : decode cX9_isWord 0 = .ok (.iload_n 0, 1) := by decide +kernel
theorem dX9_isWord_1 : decode cX9_isWord 1 = .ok (.sipush 256, 3) := by decide +kernel
theorem dX9_isWord_4 : decode cX9_isWord 4 = .ok (.if_icmp .lt 14, 3) := by decide +kernel
theorem dX9_isWord_7 : decode cX9_isWord 7 = .ok (.iload_n 0, 1) := by decide +kernel
theorem dX9_isWord_8 : decode cX9_isWord 8 = .ok (.sipush 282, 3) := by decide +kernel
theorem dX9_isWord_11 : decode cX9_isWord 11 = .ok (.if_icmp .gt 7, 3) := by decide +kernel
theorem dX9_isWord_14 : decode cX9_isWord 14 = .ok (.iconst 1, 1) := by decide +kernel
theorem dX9_isWord_15 : decode cX9_isWord 15 = .ok (.goto 4, 3) := by decide +kernel
theorem dX9_isWord_18 : decode cX9_isWord 18 = .ok (.iconst 0, 1) := by decide +kernel
theorem dX9_isWord_19 : decode cX9_isWord 19 = .ok (.ireturn, 1) := by decide +kernel
theorem dX10_init_0 : decode cX10_init 0 = .ok (.aload_n 0, 1) := by decide +kernel
theorem dX10_init_1 : decode cX10_init 1 = .ok (.invokespecial 3, 3) := by decide +kernel
theorem dX10_init_4 : decode cX10_init 4 = .ok (.aload_n 0, 1) := by decide +kernel
theorem dX10_init_5 : decode cX10_init 5 = .ok (.bipush 8, 2) := by decide +kernel
theorem dX10_init_7 : decode cX10_init 7 = .ok (.newarray .int, 2) := by decide +kernel
theorem dX10_init_9 : decode cX10_init 9 = .ok (.putfield 9, 3) := by decide +kernel
theorem dX10_init_12 : decode cX10_init 12 = .ok (.aload_n 0, 1) := by decide +kernel
theorem dX10_init_13 : decode cX10_init 13 = .ok (.bipush 8, 2) := by decide +kernel
theorem dX10_init_15 : decode cX10_init 15 = .ok (.newarray .int, 2) := by decide +kernel
theorem dX10_init_17 : decode cX10_init 17 = .ok (.putfield 15, 3) := by decide +kernel
theorem dX10_init_20 : decode cX10_init 20 = .ok (.aload_n 0, 1) := by decide +kernel
theorem dX10_init_21 : decode cX10_init 21 = .ok (.bipush 8, 2) := by decide +kernel
theorem dX10_init_23 : decode cX10_init 23 = .ok (.newarray .int, 2) := by decide +kernel
theorem dX10_init_25 : decode cX10_init 25 = .ok (.putfield 18, 3) := by decide +kernel
theorem dX10_init_28 : decode cX10_init 28 = .ok (.aload_n 0, 1) := by decide +kernel
theorem dX10_init_29 : decode cX10_init 29 = .ok (.iconst 0, 1) := by decide +kernel
theorem dX10_init_30 : decode cX10_init 30 = .ok (.putfield 21, 3) := by decide +kernel
theorem dX10_init_33 : decode cX10_init 33 = .ok (.aload_n 0, 1) := by decide +kernel
theorem dX10_init_34 : decode cX10_init 34 = .ok (.iconst 3, 1) := by decide +kernel
theorem dX10_init_35 : decode cX10_init 35 = .ok (.newarray .int, 2) := by decide +kernel
theorem dX10_init_37 : decode cX10_init 37 = .ok (.putfield 25, 3) := by decide +kernel
theorem dX10_init_40 : decode cX10_init 40 = .ok (.aload_n 0, 1) := by decide +kernel
theorem dX10_init_41 : decode cX10_init 41 = .ok (.iconst 3, 1) := by decide +kernel
theorem dX10_init_42 : decode cX10_init 42 = .ok (.newarray .int, 2) := by decide +kernel
theorem dX10_init_44 : decode cX10_init 44 = .ok (.putfield 28, 3) := by decide +kernel
theorem dX10_init_47 : decode cX10_init 47 = .ok (.aload_n 0, 1) := by decide +kernel
theorem dX10_init_48 : decode cX10_init 48 = .ok (.iconst 0, 1) := by decide +kernel
theorem dX10_init_49 : decode cX10_init 49 = .ok (.putfield 31, 3) := by decide +kernel
theorem dX10_init_52 : decode cX10_init 52 = .ok (.aload_n 0, 1) := by decide +kernel
theorem dX10_init_53 : decode cX10_init 53 = .ok (.iconst 0, 1) := by decide +kernel
theorem dX10_init_54 : decode cX10_init 54 = .ok (.putfield 34, 3) := by decide +kernel
theorem dX10_init_57 : decode cX10_init 57 = .ok (.aload_n 0, 1) := by decide +kernel
theorem dX10_init_58 : decode cX10_init 58 = .ok (.iconst 0, 1) := by decide +kernel
theorem dX10_init_59 : decode cX10_init 59 = .ok (.putfield 37, 3) := by decide +kernel
theorem dX10_init_62 : decode cX10_init 62 = .ok (.aload_n 0, 1) := by decide +kernel
theorem dX10_init_63 : decode cX10_init 63 = .ok (.iconst 0, 1) := by decide +kernel
theorem dX10_init_64 : decode cX10_init 64 = .ok (.putfield 40, 3) := by decide +kernel
theorem dX10_init_67 : decode cX10_init 67 = .ok (.aload_n 0, 1) := by decide +kernel
theorem dX10_init_68 : decode cX10_init 68 = .ok (.iconst 0, 1) := by decide +kernel
theorem dX10_init_69 : decode cX10_init 69 = .ok (.putfield 43, 3) := by decide +kernel
theorem dX10_init_72 : decode cX10_init 72 = .ok (.aload_n 0, 1) := by decide +kernel
theorem dX10_init_73 : decode cX10_init 73 = .ok (.sipush 1600, 3) := by decide +kernel
theorem dX10_init_76 : decode cX10_init 76 = .ok (.newarray .int, 2) := by decide +kernel
theorem dX10_init_78 : decode cX10_init 78 = .ok (.putfield 46, 3) := by decide +kernel
theorem dX10_init_81 : decode cX10_init 81 = .ok (.aload_n 0, 1) := by decide +kernel
theorem dX10_init_82 : decode cX10_init 82 = .ok (.iconst 0, 1) := by decide +kernel
theorem dX10_init_83 : decode cX10_init 83 = .ok (.putfield 49, 3) := by decide +kernel
theorem dX10_init_86 : decode cX10_init 86 = .ok (.aload_n 0, 1) := by decide +kernel
theorem dX10_init_87 : decode cX10_init 87 = .ok (.iconst 4, 1) := by decide +kernel
theorem dX10_init_88 : decode cX10_init 88 = .ok (.newarray .int, 2) := by decide +kernel
theorem dX10_init_90 : decode cX10_init 90 = .ok (.putfield 52, 3) := by decide +kernel
theorem dX10_init_93 : decode cX10_init 93 = .ok (.aload_n 0, 1) := by decide +kernel
theorem dX10_init_94 : decode cX10_init 94 = .ok (.iconst 4, 1) := by decide +kernel
theorem dX10_init_95 : decode cX10_init 95 = .ok (.newarray .int, 2) := by decide +kernel
theorem dX10_init_97 : decode cX10_init 97 = .ok (.putfield 55, 3) := by decide +kernel
theorem dX10_init_100 : decode cX10_init 100 = .ok (.return_, 1) := by decide +kernel
theorem dX10_clear_0 : decode cX10_clear 0 = .ok (.aload_n 0, 1) := by decide +kernel
theorem dX10_clear_1 : decode cX10_clear 1 = .ok (.iconst 0, 1) := by decide +kernel
theorem dX10_clear_2 : decode cX10_clear 2 = .ok (.putfield 21, 3) := by decide +kernel
theorem dX10_clear_5 : decode cX10_clear 5 = .ok (.aload_n 0, 1) := by decide +kernel
theorem dX10_clear_6 : decode cX10_clear 6 = .ok (.iconst 0, 1) := by decide +kernel
theorem dX10_clear_7 : decode cX10_clear 7 = .ok (.putfield 31, 3) := by decide +kernel
theorem dX10_clear_10 : decode cX10_clear 10 = .ok (.aload_n 0, 1) := by decide +kernel
theorem dX10_clear_11 : decode cX10_clear 11 = .ok (.iconst 0, 1) := by decide +kernel
theorem dX10_clear_12 : decode cX10_clear 12 = .ok (.putfield 34, 3) := by decide +kernel
theorem dX10_clear_15 : decode cX10_clear 15 = .ok (.aload_n 0, 1) := by decide +kernel
theorem dX10_clear_16 : decode cX10_clear 16 = .ok (.iconst 0, 1) := by decide +kernel
theorem dX10_clear_17 : decode cX10_clear 17 = .ok (.putfield 37, 3) := by decide +kernel
theorem dX10_clear_20 : decode cX10_clear 20 = .ok (.aload_n 0, 1) := by decide +kernel
theorem dX10_clear_21 : decode cX10_clear 21 = .ok (.iconst 0, 1) := by decide +kernel
theorem dX10_clear_22 : decode cX10_clear 22 = .ok (.putfield 40, 3) := by decide +kernel
theorem dX10_clear_25 : decode cX10_clear 25 = .ok (.aload_n 0, 1) := by decide +kernel
theorem dX10_clear_26 : decode cX10_clear 26 = .ok (.iconst 0, 1) := by decide +kernel
theorem dX10_clear_27 : decode cX10_clear 27 = .ok (.putfield 43, 3) := by decide +kernel
theorem dX10_clear_30 : decode cX10_clear 30 = .ok (.aload_n 0, 1) := by decide +kernel
theorem dX10_clear_31 : decode cX10_clear 31 = .ok (.iconst 0, 1) := by decide +kernel
theorem dX10_clear_32 : decode cX10_clear 32 = .ok (.putfield 49, 3) := by decide +kernel
theorem dX10_clear_35 : decode cX10_clear 35 = .ok (.aload_n 0, 1) := by decide +kernel
theorem dX10_clear_36 : decode cX10_clear 36 = .ok (.getfield 52, 3) := by decide +kernel
theorem dX10_clear_39 : decode cX10_clear 39 = .ok (.iconst 0, 1) := by decide +kernel
theorem dX10_clear_40 : decode cX10_clear 40 = .ok (.invokestatic 58, 3) := by decide +kernel
theorem dX10_clear_43 : decode cX10_clear 43 = .ok (.aload_n 0, 1) := by decide +kernel
theorem dX10_clear_44 : decode cX10_clear 44 = .ok (.getfield 55, 3) := by decide +kernel
theorem dX10_clear_47 : decode cX10_clear 47 = .ok (.iconst 0, 1) := by decide +kernel
theorem dX10_clear_48 : decode cX10_clear 48 = .ok (.invokestatic 58, 3) := by decide +kernel
theorem dX10_clear_51 : decode cX10_clear 51 = .ok (.return_, 1) := by decide +kernel
theorem dX10_knows_0 : decode cX10_knows 0 = .ok (.iconst 0, 1) := by decide +kernel
theorem dX10_knows_1 : decode cX10_knows 1 = .ok (.istore_n 2, 1) := by decide +kernel
theorem dX10_knows_2 : decode cX10_knows 2 = .ok (.iload_n 2, 1) := by decide +kernel
theorem dX10_knows_3 : decode cX10_knows 3 = .ok (.aload_n 0, 1) := by decide +kernel
theorem dX10_knows_4 : decode cX10_knows 4 = .ok (.getfield 21, 3) := by decide +kernel
theorem dX10_knows_7 : decode cX10_knows 7 = .ok (.if_icmp .ge 21, 3) := by decide +kernel
theorem dX10_knows_10 : decode cX10_knows 10 = .ok (.aload_n 0, 1) := by decide +kernel
theorem dX10_knows_11 : decode cX10_knows 11 = .ok (.getfield 9, 3) := by decide +kernel
theorem dX10_knows_14 : decode cX10_knows 14 = .ok (.iload_n 2, 1) := by decide +kernel
theorem dX10_knows_15 : decode cX10_knows 15 = .ok (.iaload, 1) := by decide +kernel
theorem dX10_knows_16 : decode cX10_knows 16 = .ok (.iload_n 1, 1) := by decide +kernel
theorem dX10_knows_17 : decode cX10_knows 17 = .ok (.if_icmp .ne 5, 3) := by decide +kernel
theorem dX10_knows_20 : decode cX10_knows 20 = .ok (.iconst 1, 1) := by decide +kernel
theorem dX10_knows_21 : decode cX10_knows 21 = .ok (.ireturn, 1) := by decide +kernel
theorem dX10_knows_22 : decode cX10_knows 22 = .ok (.iinc 2 1, 3) := by decide +kernel
theorem dX10_knows_25 : decode cX10_knows 25 = .ok (.goto (-23), 3) := by decide +kernel
theorem dX10_knows_28 : decode cX10_knows 28 = .ok (.iconst 0, 1) := by decide +kernel
theorem dX10_knows_29 : decode cX10_knows 29 = .ok (.istore_n 2, 1) := by decide +kernel
theorem dX10_knows_30 : decode cX10_knows 30 = .ok (.iload_n 2, 1) := by decide +kernel
theorem dX10_knows_31 : decode cX10_knows 31 = .ok (.aload_n 0, 1) := by decide +kernel
theorem dX10_knows_32 : decode cX10_knows 32 = .ok (.getfield 31, 3) := by decide +kernel
theorem dX10_knows_35 : decode cX10_knows 35 = .ok (.if_icmp .ge 21, 3) := by decide +kernel
theorem dX10_knows_38 : decode cX10_knows 38 = .ok (.aload_n 0, 1) := by decide +kernel
theorem dX10_knows_39 : decode cX10_knows 39 = .ok (.getfield 25, 3) := by decide +kernel
theorem dX10_knows_42 : decode cX10_knows 42 = .ok (.iload_n 2, 1) := by decide +kernel
theorem dX10_knows_43 : decode cX10_knows 43 = .ok (.iaload, 1) := by decide +kernel
theorem dX10_knows_44 : decode cX10_knows 44 = .ok (.iload_n 1, 1) := by decide +kernel
theorem dX10_knows_45 : decode cX10_knows 45 = .ok (.if_icmp .ne 5, 3) := by decide +kernel
theorem dX10_knows_48 : decode cX10_knows 48 = .ok (.iconst 1, 1) := by decide +kernel
theorem dX10_knows_49 : decode cX10_knows 49 = .ok (.ireturn, 1) := by decide +kernel
theorem dX10_knows_50 : decode cX10_knows 50 = .ok (.iinc 2 1, 3) := by decide +kernel
theorem dX10_knows_53 : decode cX10_knows 53 = .ok (.goto (-23), 3) := by decide +kernel
theorem dX10_knows_56 : decode cX10_knows 56 = .ok (.iconst 0, 1) := by decide +kernel
theorem dX10_knows_57 : decode cX10_knows 57 = .ok (.ireturn, 1) := by decide +kernel
theorem dX10_hasNoMoreOf_0 : decode cX10_hasNoMoreOf 0 = .ok (.iload_n 1, 1) := by decide +kernel
theorem dX10_hasNoMoreOf_1 : decode cX10_hasNoMoreOf 1 = .ok (.lookupswitch 56 #[(256, 27), (259, 42)], 27) := by decide +kernel
theorem dX10_hasNoMoreOf_28 : decode cX10_hasNoMoreOf 28 = .ok (.aload_n 0, 1) := by decide +kernel
theorem dX10_hasNoMoreOf_29 : decode cX10_hasNoMoreOf 29 = .ok (.getfield 21, 3) := by decide +kernel
theorem dX10_hasNoMoreOf_32 : decode cX10_hasNoMoreOf 32 = .ok (.bipush 8, 2) := by decide +kernel
theorem dX10_hasNoMoreOf_34 : decode cX10_hasNoMoreOf 34 = .ok (.if_icmp .lt 7, 3) := by decide +kernel
theorem dX10_hasNoMoreOf_37 : decode cX10_hasNoMoreOf 37 = .ok (.iconst 1, 1) := by decide +kernel
theorem dX10_hasNoMoreOf_38 : decode cX10_hasNoMoreOf 38 = .ok (.goto 4, 3) := by decide +kernel
theorem dX10_hasNoMoreOf_41 : decode cX10_hasNoMoreOf 41 = .ok (.iconst 0, 1) := by decide +kernel
theorem dX10_hasNoMoreOf_42 : decode cX10_hasNoMoreOf 42 = .ok (.ireturn, 1) := by decide +kernel
theorem dX10_hasNoMoreOf_43 : decode cX10_hasNoMoreOf 43 = .ok (.aload_n 0, 1) := by decide +kernel
theorem dX10_hasNoMoreOf_44 : decode cX10_hasNoMoreOf 44 = .ok (.getfield 31, 3) := by decide +kernel
theorem dX10_hasNoMoreOf_47 : decode cX10_hasNoMoreOf 47 = .ok (.iconst 3, 1) := by decide +kernel
theorem dX10_hasNoMoreOf_48 : decode cX10_hasNoMoreOf 48 = .ok (.if_icmp .lt 7, 3) := by decide +kernel
theorem dX10_hasNoMoreOf_51 : decode cX10_hasNoMoreOf 51 = .ok (.iconst 1, 1) := by decide +kernel
theorem dX10_hasNoMoreOf_52 : decode cX10_hasNoMoreOf 52 = .ok (.goto 4, 3) := by decide +kernel
theorem dX10_hasNoMoreOf_55 : decode cX10_hasNoMoreOf 55 = .ok (.iconst 0, 1) := by decide +kernel
theorem dX10_hasNoMoreOf_56 : decode cX10_hasNoMoreOf 56 = .ok (.ireturn, 1) := by decide +kernel
theorem dX10_hasNoMoreOf_57 : decode cX10_hasNoMoreOf 57 = .ok (.aload_n 0, 1) := by decide +kernel
theorem dX10_hasNoMoreOf_58 : decode cX10_hasNoMoreOf 58 = .ok (.iload_n 1, 1) := by decide +kernel
theorem dX10_hasNoMoreOf_59 : decode cX10_hasNoMoreOf 59 = .ok (.invokevirtual 64, 3) := by decide +kernel
theorem dX10_hasNoMoreOf_62 : decode cX10_hasNoMoreOf 62 = .ok (.ireturn, 1) := by decide +kernel
theorem dX10_addChild_0 : decode cX10_addChild 0 = .ok (.aload_n 0, 1) := by decide +kernel
theorem dX10_addChild_1 : decode cX10_addChild 1 = .ok (.getfield 21, 3) := by decide +kernel
theorem dX10_addChild_4 : decode cX10_addChild 4 = .ok (.bipush 8, 2) := by decide +kernel
theorem dX10_addChild_6 : decode cX10_addChild 6 = .ok (.if_icmp .ge 43, 3) := by decide +kernel
theorem dX10_addChild_9 : decode cX10_addChild 9 = .ok (.aload_n 0, 1) := by decide +kernel
theorem dX10_addChild_10 : decode cX10_addChild 10 = .ok (.getfield 9, 3) := by decide +kernel
theorem dX10_addChild_13 : decode cX10_addChild 13 = .ok (.aload_n 0, 1) := by decide +kernel
theorem dX10_addChild_14 : decode cX10_addChild 14 = .ok (.getfield 21, 3) := by decide +kernel
theorem dX10_addChild_17 : decode cX10_addChild 17 = .ok (.iload_n 1, 1) := by decide +kernel
theorem dX10_addChild_18 : decode cX10_addChild 18 = .ok (.iastore, 1) := by decide +kernel
theorem dX10_addChild_19 : decode cX10_addChild 19 = .ok (.aload_n 0, 1) := by decide +kernel
theorem dX10_addChild_20 : decode cX10_addChild 20 = .ok (.getfield 15, 3) := by decide +kernel
theorem dX10_addChild_23 : decode cX10_addChild 23 = .ok (.aload_n 0, 1) := by decide +kernel
theorem dX10_addChild_24 : decode cX10_addChild 24 = .ok (.getfield 21, 3) := by decide +kernel
theorem dX10_addChild_27 : decode cX10_addChild 27 = .ok (.iload_n 2, 1) := by decide +kernel
theorem dX10_addChild_28 : decode cX10_addChild 28 = .ok (.iastore, 1) := by decide +kernel
theorem dX10_addChild_29 : decode cX10_addChild 29 = .ok (.aload_n 0, 1) := by decide +kernel
theorem dX10_addChild_30 : decode cX10_addChild 30 = .ok (.getfield 18, 3) := by decide +kernel
theorem dX10_addChild_33 : decode cX10_addChild 33 = .ok (.aload_n 0, 1) := by decide +kernel
theorem dX10_addChild_34 : decode cX10_addChild 34 = .ok (.getfield 21, 3) := by decide +kernel
theorem dX10_addChild_37 : decode cX10_addChild 37 = .ok (.iload_n 3, 1) := by decide +kernel
theorem dX10_addChild_38 : decode cX10_addChild 38 = .ok (.iastore, 1) := by decide +kernel
theorem dX10_addChild_39 : decode cX10_addChild 39 = .ok (.aload_n 0, 1) := by decide +kernel
theorem dX10_addChild_40 : decode cX10_addChild 40 = .ok (.dup, 1) := by decide +kernel
theorem dX10_addChild_41 : decode cX10_addChild 41 = .ok (.getfield 21, 3) := by decide +kernel
theorem dX10_addChild_44 : decode cX10_addChild 44 = .ok (.iconst 1, 1) := by decide +kernel
theorem dX10_addChild_45 : decode cX10_addChild 45 = .ok (.iadd, 1) := by decide +kernel
theorem dX10_addChild_46 : decode cX10_addChild 46 = .ok (.putfield 21, 3) := by decide +kernel
theorem dX10_addChild_49 : decode cX10_addChild 49 = .ok (.return_, 1) := by decide +kernel
theorem dX10_addKiln_0 : decode cX10_addKiln 0 = .ok (.aload_n 0, 1) := by decide +kernel
theorem dX10_addKiln_1 : decode cX10_addKiln 1 = .ok (.getfield 31, 3) := by decide +kernel
theorem dX10_addKiln_4 : decode cX10_addKiln 4 = .ok (.iconst 3, 1) := by decide +kernel
theorem dX10_addKiln_5 : decode cX10_addKiln 5 = .ok (.if_icmp .ge 33, 3) := by decide +kernel
theorem dX10_addKiln_8 : decode cX10_addKiln 8 = .ok (.aload_n 0, 1) := by decide +kernel
theorem dX10_addKiln_9 : decode cX10_addKiln 9 = .ok (.getfield 25, 3) := by decide +kernel
theorem dX10_addKiln_12 : decode cX10_addKiln 12 = .ok (.aload_n 0, 1) := by decide +kernel
theorem dX10_addKiln_13 : decode cX10_addKiln 13 = .ok (.getfield 31, 3) := by decide +kernel
theorem dX10_addKiln_16 : decode cX10_addKiln 16 = .ok (.iload_n 1, 1) := by decide +kernel
theorem dX10_addKiln_17 : decode cX10_addKiln 17 = .ok (.iastore, 1) := by decide +kernel
theorem dX10_addKiln_18 : decode cX10_addKiln 18 = .ok (.aload_n 0, 1) := by decide +kernel
theorem dX10_addKiln_19 : decode cX10_addKiln 19 = .ok (.getfield 28, 3) := by decide +kernel
theorem dX10_addKiln_22 : decode cX10_addKiln 22 = .ok (.aload_n 0, 1) := by decide +kernel
theorem dX10_addKiln_23 : decode cX10_addKiln 23 = .ok (.getfield 31, 3) := by decide +kernel
theorem dX10_addKiln_26 : decode cX10_addKiln 26 = .ok (.iload_n 2, 1) := by decide +kernel
theorem dX10_addKiln_27 : decode cX10_addKiln 27 = .ok (.iastore, 1) := by decide +kernel
theorem dX10_addKiln_28 : decode cX10_addKiln 28 = .ok (.aload_n 0, 1) := by decide +kernel
theorem dX10_addKiln_29 : decode cX10_addKiln 29 = .ok (.dup, 1) := by decide +kernel
theorem dX10_addKiln_30 : decode cX10_addKiln 30 = .ok (.getfield 31, 3) := by decide +kernel
theorem dX10_addKiln_33 : decode cX10_addKiln 33 = .ok (.iconst 1, 1) := by decide +kernel
theorem dX10_addKiln_34 : decode cX10_addKiln 34 = .ok (.iadd, 1) := by decide +kernel
theorem dX10_addKiln_35 : decode cX10_addKiln 35 = .ok (.putfield 31, 3) := by decide +kernel
theorem dX10_addKiln_38 : decode cX10_addKiln 38 = .ok (.return_, 1) := by decide +kernel
theorem dX10_isFormula_0 : decode cX10_isFormula 0 = .ok (.iload_n 0, 1) := by decide +kernel
theorem dX10_isFormula_1 : decode cX10_isFormula 1 = .ok (.sipush 261, 3) := by decide +kernel
theorem dX10_isFormula_4 : decode cX10_isFormula 4 = .ok (.if_icmp .lt 14, 3) := by decide +kernel
theorem dX10_isFormula_7 : decode cX10_isFormula 7 = .ok (.iload_n 0, 1) := by decide +kernel
theorem dX10_isFormula_8 : decode cX10_isFormula 8 = .ok (.sipush 264, 3) := by decide +kernel
theorem dX10_isFormula_11 : decode cX10_isFormula 11 = .ok (.if_icmp .gt 7, 3) := by decide +kernel
theorem dX10_isFormula_14 : decode cX10_isFormula 14 = .ok (.iconst 1, 1) := by decide +kernel
theorem dX10_isFormula_15 : decode cX10_isFormula 15 = .ok (.goto 4, 3) := by decide +kernel
theorem dX10_isFormula_18 : decode cX10_isFormula 18 = .ok (.iconst 0, 1) := by decide +kernel
theorem dX10_isFormula_19 : decode cX10_isFormula 19 = .ok (.ireturn, 1) := by decide +kernel
theorem dX10_hasFormula_0 : decode cX10_hasFormula 0 = .ok (.iload_n 1, 1) := by decide +kernel
theorem dX10_hasFormula_1 : decode cX10_hasFormula 1 = .ok (.invokestatic 70, 3) := by decide +kernel
theorem dX10_hasFormula_4 : decode cX10_hasFormula 4 = .ok (.ifCond .eq 30, 3) := by decide +kernel
theorem dX10_hasFormula_7 : decode cX10_hasFormula 7 = .ok (.aload_n 0, 1) := by decide +kernel
theorem dX10_hasFormula_8 : decode cX10_hasFormula 8 = .ok (.getfield 55, 3) := by decide +kernel
theorem dX10_hasFormula_11 : decode cX10_hasFormula 11 = .ok (.iload_n 1, 1) := by decide +kernel
theorem dX10_hasFormula_12 : decode cX10_hasFormula 12 = .ok (.sipush 261, 3) := by decide +kernel
theorem dX10_hasFormula_15 : decode cX10_hasFormula 15 = .ok (.isub, 1) := by decide +kernel
theorem dX10_hasFormula_16 : decode cX10_hasFormula 16 = .ok (.iaload, 1) := by decide +kernel
theorem dX10_hasFormula_17 : decode cX10_hasFormula 17 = .ok (.aload_n 0, 1) := by decide +kernel
theorem dX10_hasFormula_18 : decode cX10_hasFormula 18 = .ok (.getfield 52, 3) := by decide +kernel
theorem dX10_hasFormula_21 : decode cX10_hasFormula 21 = .ok (.iload_n 1, 1) := by decide +kernel
theorem dX10_hasFormula_22 : decode cX10_hasFormula 22 = .ok (.sipush 261, 3) := by decide +kernel
theorem dX10_hasFormula_25 : decode cX10_hasFormula 25 = .ok (.isub, 1) := by decide +kernel
theorem dX10_hasFormula_26 : decode cX10_hasFormula 26 = .ok (.iaload, 1) := by decide +kernel
theorem dX10_hasFormula_27 : decode cX10_hasFormula 27 = .ok (.if_icmp .le 7, 3) := by decide +kernel
theorem dX10_hasFormula_30 : decode cX10_hasFormula 30 = .ok (.iconst 1, 1) := by decide +kernel
theorem dX10_hasFormula_31 : decode cX10_hasFormula 31 = .ok (.goto 4, 3) := by decide +kernel
theorem dX10_hasFormula_34 : decode cX10_hasFormula 34 = .ok (.iconst 0, 1) := by decide +kernel
theorem dX10_hasFormula_35 : decode cX10_hasFormula 35 = .ok (.ireturn, 1) := by decide +kernel
theorem dX10_beginFormula_0 : decode cX10_beginFormula 0 = .ok (.iload_n 1, 1) := by decide +kernel
theorem dX10_beginFormula_1 : decode cX10_beginFormula 1 = .ok (.invokestatic 70, 3) := by decide +kernel
theorem dX10_beginFormula_4 : decode cX10_beginFormula 4 = .ok (.ifCond .eq 17, 3) := by decide +kernel
theorem dX10_beginFormula_7 : decode cX10_beginFormula 7 = .ok (.aload_n 0, 1) := by decide +kernel
theorem dX10_beginFormula_8 : decode cX10_beginFormula 8 = .ok (.getfield 52, 3) := by decide +kernel
theorem dX10_beginFormula_11 : decode cX10_beginFormula 11 = .ok (.iload_n 1, 1) := by decide +kernel
theorem dX10_beginFormula_12 : decode cX10_beginFormula 12 = .ok (.sipush 261, 3) := by decide +kernel
theorem dX10_beginFormula_15 : decode cX10_beginFormula 15 = .ok (.isub, 1) := by decide +kernel
theorem dX10_beginFormula_16 : decode cX10_beginFormula 16 = .ok (.aload_n 0, 1) := by decide +kernel
theorem dX10_beginFormula_17 : decode cX10_beginFormula 17 = .ok (.getfield 49, 3) := by decide +kernel
theorem dX10_beginFormula_20 : decode cX10_beginFormula 20 = .ok (.iastore, 1) := by decide +kernel
theorem dX10_beginFormula_21 : decode cX10_beginFormula 21 = .ok (.return_, 1) := by decide +kernel
theorem dX10_endFormula_0 : decode cX10_endFormula 0 = .ok (.iload_n 1, 1) := by decide +kernel
theorem dX10_endFormula_1 : decode cX10_endFormula 1 = .ok (.invokestatic 70, 3) := by decide +kernel
theorem dX10_endFormula_4 : decode cX10_endFormula 4 = .ok (.ifCond .eq 17, 3) := by decide +kernel
theorem dX10_endFormula_7 : decode cX10_endFormula 7 = .ok (.aload_n 0, 1) := by decide +kernel
theorem dX10_endFormula_8 : decode cX10_endFormula 8 = .ok (.getfield 55, 3) := by decide +kernel
theorem dX10_endFormula_11 : decode cX10_endFormula 11 = .ok (.iload_n 1, 1) := by decide +kernel
theorem dX10_endFormula_12 : decode cX10_endFormula 12 = .ok (.sipush 261, 3) := by decide +kernel
theorem dX10_endFormula_15 : decode cX10_endFormula 15 = .ok (.isub, 1) := by decide +kernel
theorem dX10_endFormula_16 : decode cX10_endFormula 16 = .ok (.aload_n 0, 1) := by decide +kernel
theorem dX10_endFormula_17 : decode cX10_endFormula 17 = .ok (.getfield 49, 3) := by decide +kernel
theorem dX10_endFormula_20 : decode cX10_endFormula 20 = .ok (.iastore, 1) := by decide +kernel
theorem dX10_endFormula_21 : decode cX10_endFormula 21 = .ok (.return_, 1) := by decide +kernel
theorem dX10_addCode_0 : decode cX10_addCode 0 = .ok (.aload_n 0, 1) := by decide +kernel
theorem dX10_addCode_1 : decode cX10_addCode 1 = .ok (.getfield 49, 3) := by decide +kernel
theorem dX10_addCode_4 : decode cX10_addCode 4 = .ok (.aload_n 0, 1) := by decide +kernel
theorem dX10_addCode_5 : decode cX10_addCode 5 = .ok (.getfield 46, 3) := by decide +kernel
theorem dX10_addCode_8 : decode cX10_addCode 8 = .ok (.arraylength, 1) := by decide +kernel
theorem dX10_addCode_9 : decode cX10_addCode 9 = .ok (.if_icmp .ge 23, 3) := by decide +kernel
theorem dX10_addCode_12 : decode cX10_addCode 12 = .ok (.aload_n 0, 1) := by decide +kernel
theorem dX10_addCode_13 : decode cX10_addCode 13 = .ok (.getfield 46, 3) := by decide +kernel
theorem dX10_addCode_16 : decode cX10_addCode 16 = .ok (.aload_n 0, 1) := by decide +kernel
theorem dX10_addCode_17 : decode cX10_addCode 17 = .ok (.getfield 49, 3) := by decide +kernel
theorem dX10_addCode_20 : decode cX10_addCode 20 = .ok (.iload_n 1, 1) := by decide +kernel
theorem dX10_addCode_21 : decode cX10_addCode 21 = .ok (.iastore, 1) := by decide +kernel
theorem dX10_addCode_22 : decode cX10_addCode 22 = .ok (.aload_n 0, 1) := by decide +kernel
theorem dX10_addCode_23 : decode cX10_addCode 23 = .ok (.dup, 1) := by decide +kernel
theorem dX10_addCode_24 : decode cX10_addCode 24 = .ok (.getfield 49, 3) := by decide +kernel
theorem dX10_addCode_27 : decode cX10_addCode 27 = .ok (.iconst 1, 1) := by decide +kernel
theorem dX10_addCode_28 : decode cX10_addCode 28 = .ok (.iadd, 1) := by decide +kernel
theorem dX10_addCode_29 : decode cX10_addCode 29 = .ok (.putfield 49, 3) := by decide +kernel
theorem dX10_addCode_32 : decode cX10_addCode 32 = .ok (.return_, 1) := by decide +kernel
theorem dX11_init_0 : decode cX11_init 0 = .ok (.aload_n 0, 1) := by decide +kernel
theorem dX11_init_1 : decode cX11_init 1 = .ok (.invokespecial 1, 3) := by decide +kernel
theorem dX11_init_4 : decode cX11_init 4 = .ok (.aload_n 0, 1) := by decide +kernel
theorem dX11_init_5 : decode cX11_init 5 = .ok (.sipush 1600, 3) := by decide +kernel
theorem dX11_init_8 : decode cX11_init 8 = .ok (.newarray .byte, 2) := by decide +kernel
theorem dX11_init_10 : decode cX11_init 10 = .ok (.putfield 9, 3) := by decide +kernel
theorem dX11_init_13 : decode cX11_init 13 = .ok (.aload_n 0, 1) := by decide +kernel
theorem dX11_init_14 : decode cX11_init 14 = .ok (.iconst 0, 1) := by decide +kernel
theorem dX11_init_15 : decode cX11_init 15 = .ok (.putfield 13, 3) := by decide +kernel
theorem dX11_init_18 : decode cX11_init 18 = .ok (.aload_n 0, 1) := by decide +kernel
theorem dX11_init_19 : decode cX11_init 19 = .ok (.new 17, 3) := by decide +kernel
theorem dX11_init_22 : decode cX11_init 22 = .ok (.dup, 1) := by decide +kernel
theorem dX11_init_23 : decode cX11_init 23 = .ok (.invokespecial 19, 3) := by decide +kernel
theorem dX11_init_26 : decode cX11_init 26 = .ok (.putfield 20, 3) := by decide +kernel
theorem dX11_init_29 : decode cX11_init 29 = .ok (.aload_n 0, 1) := by decide +kernel
theorem dX11_init_30 : decode cX11_init 30 = .ok (.new 17, 3) := by decide +kernel
theorem dX11_init_33 : decode cX11_init 33 = .ok (.dup, 1) := by decide +kernel
theorem dX11_init_34 : decode cX11_init 34 = .ok (.invokespecial 19, 3) := by decide +kernel
theorem dX11_init_37 : decode cX11_init 37 = .ok (.putfield 24, 3) := by decide +kernel
theorem dX11_init_40 : decode cX11_init 40 = .ok (.aload_n 0, 1) := by decide +kernel
theorem dX11_init_41 : decode cX11_init 41 = .ok (.new 27, 3) := by decide +kernel
theorem dX11_init_44 : decode cX11_init 44 = .ok (.dup, 1) := by decide +kernel
theorem dX11_init_45 : decode cX11_init 45 = .ok (.aload_n 0, 1) := by decide +kernel
theorem dX11_init_46 : decode cX11_init 46 = .ok (.getfield 24, 3) := by decide +kernel
theorem dX11_init_49 : decode cX11_init 49 = .ok (.invokespecial 29, 3) := by decide +kernel
theorem dX11_init_52 : decode cX11_init 52 = .ok (.putfield 32, 3) := by decide +kernel
theorem dX11_init_55 : decode cX11_init 55 = .ok (.aload_n 0, 1) := by decide +kernel
theorem dX11_init_56 : decode cX11_init 56 = .ok (.new 36, 3) := by decide +kernel
theorem dX11_init_59 : decode cX11_init 59 = .ok (.dup, 1) := by decide +kernel
theorem dX11_init_60 : decode cX11_init 60 = .ok (.aload_n 0, 1) := by decide +kernel
theorem dX11_init_61 : decode cX11_init 61 = .ok (.getfield 20, 3) := by decide +kernel
theorem dX11_init_64 : decode cX11_init 64 = .ok (.invokespecial 38, 3) := by decide +kernel
theorem dX11_init_67 : decode cX11_init 67 = .ok (.putfield 39, 3) := by decide +kernel
theorem dX11_init_70 : decode cX11_init 70 = .ok (.aload_n 0, 1) := by decide +kernel
theorem dX11_init_71 : decode cX11_init 71 = .ok (.new 43, 3) := by decide +kernel
theorem dX11_init_74 : decode cX11_init 74 = .ok (.dup, 1) := by decide +kernel
theorem dX11_init_75 : decode cX11_init 75 = .ok (.invokespecial 45, 3) := by decide +kernel
theorem dX11_init_78 : decode cX11_init 78 = .ok (.putfield 46, 3) := by decide +kernel
theorem dX11_init_81 : decode cX11_init 81 = .ok (.aload_n 0, 1) := by decide +kernel
theorem dX11_init_82 : decode cX11_init 82 = .ok (.new 43, 3) := by decide +kernel
theorem dX11_init_85 : decode cX11_init 85 = .ok (.dup, 1) := by decide +kernel
theorem dX11_init_86 : decode cX11_init 86 = .ok (.invokespecial 45, 3) := by decide +kernel
theorem dX11_init_89 : decode cX11_init 89 = .ok (.putfield 50, 3) := by decide +kernel
theorem dX11_init_92 : decode cX11_init 92 = .ok (.aload_n 0, 1) := by decide +kernel
theorem dX11_init_93 : decode cX11_init 93 = .ok (.new 53, 3) := by decide +kernel
theorem dX11_init_96 : decode cX11_init 96 = .ok (.dup, 1) := by decide +kernel
theorem dX11_init_97 : decode cX11_init 97 = .ok (.invokespecial 55, 3) := by decide +kernel
theorem dX11_init_100 : decode cX11_init 100 = .ok (.putfield 56, 3) := by decide +kernel
theorem dX11_init_103 : decode cX11_init 103 = .ok (.aload_n 0, 1) := by decide +kernel
theorem dX11_init_104 : decode cX11_init 104 = .ok (.new 60, 3) := by decide +kernel
theorem dX11_init_107 : decode cX11_init 107 = .ok (.dup, 1) := by decide +kernel
theorem dX11_init_108 : decode cX11_init 108 = .ok (.aload_n 0, 1) := by decide +kernel
theorem dX11_init_109 : decode cX11_init 109 = .ok (.getfield 39, 3) := by decide +kernel
theorem dX11_init_112 : decode cX11_init 112 = .ok (.invokespecial 62, 3) := by decide +kernel
theorem dX11_init_115 : decode cX11_init 115 = .ok (.putfield 65, 3) := by decide +kernel
theorem dX11_init_118 : decode cX11_init 118 = .ok (.aload_n 0, 1) := by decide +kernel
theorem dX11_init_119 : decode cX11_init 119 = .ok (.new 69, 3) := by decide +kernel
theorem dX11_init_122 : decode cX11_init 122 = .ok (.dup, 1) := by decide +kernel
theorem dX11_init_123 : decode cX11_init 123 = .ok (.invokespecial 71, 3) := by decide +kernel
theorem dX11_init_126 : decode cX11_init 126 = .ok (.putfield 72, 3) := by decide +kernel
theorem dX11_init_129 : decode cX11_init 129 = .ok (.aload_n 0, 1) := by decide +kernel
theorem dX11_init_130 : decode cX11_init 130 = .ok (.new 76, 3) := by decide +kernel
theorem dX11_init_133 : decode cX11_init 133 = .ok (.dup, 1) := by decide +kernel
theorem dX11_init_134 : decode cX11_init 134 = .ok (.invokespecial 78, 3) := by decide +kernel
theorem dX11_init_137 : decode cX11_init 137 = .ok (.putfield 79, 3) := by decide +kernel
theorem dX11_init_140 : decode cX11_init 140 = .ok (.aload_n 0, 1) := by decide +kernel
theorem dX11_init_141 : decode cX11_init 141 = .ok (.bipush 6, 2) := by decide +kernel
theorem dX11_init_143 : decode cX11_init 143 = .ok (.newarray .int, 2) := by decide +kernel
theorem dX11_init_145 : decode cX11_init 145 = .ok (.putfield 83, 3) := by decide +kernel
theorem dX11_init_148 : decode cX11_init 148 = .ok (.aload_n 0, 1) := by decide +kernel
theorem dX11_init_149 : decode cX11_init 149 = .ok (.iconst 1, 1) := by decide +kernel
theorem dX11_init_150 : decode cX11_init 150 = .ok (.putfield 87, 3) := by decide +kernel
theorem dX11_init_153 : decode cX11_init 153 = .ok (.aload_n 0, 1) := by decide +kernel
theorem dX11_init_154 : decode cX11_init 154 = .ok (.iconst 0, 1) := by decide +kernel
theorem dX11_init_155 : decode cX11_init 155 = .ok (.putfield 90, 3) := by decide +kernel
theorem dX11_init_158 : decode cX11_init 158 = .ok (.aload_n 0, 1) := by decide +kernel
theorem dX11_init_159 : decode cX11_init 159 = .ok (.iconst (-1), 1) := by decide +kernel
theorem dX11_init_160 : decode cX11_init 160 = .ok (.putfield 93, 3) := by decide +kernel
theorem dX11_init_163 : decode cX11_init 163 = .ok (.aload_n 0, 1) := by decide +kernel
theorem dX11_init_164 : decode cX11_init 164 = .ok (.getfield 46, 3) := by decide +kernel
theorem dX11_init_167 : decode cX11_init 167 = .ok (.aload_n 0, 1) := by decide +kernel
theorem dX11_init_168 : decode cX11_init 168 = .ok (.getfield 20, 3) := by decide +kernel
theorem dX11_init_171 : decode cX11_init 171 = .ok (.invokevirtual 96, 3) := by decide +kernel
theorem dX11_init_174 : decode cX11_init 174 = .ok (.return_, 1) := by decide +kernel
theorem dX11_feed_0 : decode cX11_feed 0 = .ok (.aload_n 0, 1) := by decide +kernel
theorem dX11_feed_1 : decode cX11_feed 1 = .ok (.getfield 13, 3) := by decide +kernel
theorem dX11_feed_4 : decode cX11_feed 4 = .ok (.bipush 20, 2) := by decide +kernel
theorem dX11_feed_6 : decode cX11_feed 6 = .ok (.iadd, 1) := by decide +kernel
theorem dX11_feed_7 : decode cX11_feed 7 = .ok (.sipush 1600, 3) := by decide +kernel
theorem dX11_feed_10 : decode cX11_feed 10 = .ok (.if_icmp .le 9, 3) := by decide +kernel
theorem dX11_feed_13 : decode cX11_feed 13 = .ok (.aload_n 0, 1) := by decide +kernel
theorem dX11_feed_14 : decode cX11_feed 14 = .ok (.iconst 0, 1) := by decide +kernel
theorem dX11_feed_15 : decode cX11_feed 15 = .ok (.invokevirtual 99, 3) := by decide +kernel
theorem dX11_feed_18 : decode cX11_feed 18 = .ok (.ireturn, 1) := by decide +kernel
theorem dX11_feed_19 : decode cX11_feed 19 = .ok (.aload_n 0, 1) := by decide +kernel
theorem dX11_feed_20 : decode cX11_feed 20 = .ok (.iload_n 1, 1) := by decide +kernel
theorem dX11_feed_21 : decode cX11_feed 21 = .ok (.invokevirtual 103, 3) := by decide +kernel
theorem dX11_feed_24 : decode cX11_feed 24 = .ok (.aload_n 0, 1) := by decide +kernel
theorem dX11_feed_25 : decode cX11_feed 25 = .ok (.iload_n 2, 1) := by decide +kernel
theorem dX11_feed_26 : decode cX11_feed 26 = .ok (.invokevirtual 103, 3) := by decide +kernel
theorem dX11_feed_29 : decode cX11_feed 29 = .ok (.aload_n 0, 1) := by decide +kernel
theorem dX11_feed_30 : decode cX11_feed 30 = .ok (.iload_n 3, 1) := by decide +kernel
theorem dX11_feed_31 : decode cX11_feed 31 = .ok (.invokevirtual 103, 3) := by decide +kernel
theorem dX11_feed_34 : decode cX11_feed 34 = .ok (.aload_n 0, 1) := by decide +kernel
theorem dX11_feed_35 : decode cX11_feed 35 = .ok (.iload 4, 2) := by decide +kernel
theorem dX11_feed_37 : decode cX11_feed 37 = .ok (.invokevirtual 103, 3) := by decide +kernel
theorem dX11_feed_40 : decode cX11_feed 40 = .ok (.aload_n 0, 1) := by decide +kernel
theorem dX11_feed_41 : decode cX11_feed 41 = .ok (.iload 5, 2) := by decide +kernel
theorem dX11_feed_43 : decode cX11_feed 43 = .ok (.invokevirtual 103, 3) := by decide +kernel
theorem dX11_feed_46 : decode cX11_feed 46 = .ok (.aload_n 0, 1) := by decide +kernel
theorem dX11_feed_47 : decode cX11_feed 47 = .ok (.getfield 13, 3) := by decide +kernel
theorem dX11_feed_50 : decode cX11_feed 50 = .ok (.ireturn, 1) := by decide +kernel
theorem dX11_end_0 : decode cX11_end 0 = .ok (.iload_n 1, 1) := by decide +kernel
theorem dX11_end_1 : decode cX11_end 1 = .ok (.ifCond .lt 11, 3) := by decide +kernel
theorem dX11_end_4 : decode cX11_end 4 = .ok (.iload_n 1, 1) := by decide +kernel
theorem dX11_end_5 : decode cX11_end 5 = .ok (.aload_n 0, 1) := by decide +kernel
theorem dX11_end_6 : decode cX11_end 6 = .ok (.getfield 13, 3) := by decide +kernel
theorem dX11_end_9 : decode cX11_end 9 = .ok (.if_icmp .le 9, 3) := by decide +kernel
theorem dX11_end_12 : decode cX11_end 12 = .ok (.aload_n 0, 1) := by decide +kernel
theorem dX11_end_13 : decode cX11_end 13 = .ok (.iconst 0, 1) := by decide +kernel
theorem dX11_end_14 : decode cX11_end 14 = .ok (.invokevirtual 107, 3) := by decide +kernel
theorem dX11_end_17 : decode cX11_end 17 = .ok (.ireturn, 1) := by decide +kernel
theorem dX11_end_18 : decode cX11_end 18 = .ok (.aload_n 0, 1) := by decide +kernel
theorem dX11_end_19 : decode cX11_end 19 = .ok (.iload_n 1, 1) := by decide +kernel
theorem dX11_end_20 : decode cX11_end 20 = .ok (.putfield 13, 3) := by decide +kernel
theorem dX11_end_23 : decode cX11_end 23 = .ok (.iconst 1, 1) := by decide +kernel
theorem dX11_end_24 : decode cX11_end 24 = .ok (.ireturn, 1) := by decide +kernel
theorem dX11_town_0 : decode cX11_town 0 = .ok (.aload_n 0, 1) := by decide +kernel
theorem dX11_town_1 : decode cX11_town 1 = .ok (.getfield 32, 3) := by decide +kernel
theorem dX11_town_4 : decode cX11_town 4 = .ok (.aload_n 0, 1) := by decide +kernel
theorem dX11_town_5 : decode cX11_town 5 = .ok (.getfield 9, 3) := by decide +kernel
theorem dX11_town_8 : decode cX11_town 8 = .ok (.aload_n 0, 1) := by decide +kernel
theorem dX11_town_9 : decode cX11_town 9 = .ok (.getfield 13, 3) := by decide +kernel
theorem dX11_town_12 : decode cX11_town 12 = .ok (.aload_n 0, 1) := by decide +kernel
theorem dX11_town_13 : decode cX11_town 13 = .ok (.getfield 24, 3) := by decide +kernel
theorem dX11_town_16 : decode cX11_town 16 = .ok (.invokevirtual 111, 3) := by decide +kernel
theorem dX11_town_19 : decode cX11_town 19 = .ok (.istore_n 1, 1) := by decide +kernel
theorem dX11_town_20 : decode cX11_town 20 = .ok (.aload_n 0, 1) := by decide +kernel
theorem dX11_town_21 : decode cX11_town 21 = .ok (.iconst 0, 1) := by decide +kernel
theorem dX11_town_22 : decode cX11_town 22 = .ok (.putfield 13, 3) := by decide +kernel
theorem dX11_town_25 : decode cX11_town 25 = .ok (.aload_n 0, 1) := by decide +kernel
theorem dX11_town_26 : decode cX11_town 26 = .ok (.aload_n 0, 1) := by decide +kernel
theorem dX11_town_27 : decode cX11_town 27 = .ok (.getfield 32, 3) := by decide +kernel
theorem dX11_town_30 : decode cX11_town 30 = .ok (.invokevirtual 115, 3) := by decide +kernel
theorem dX11_town_33 : decode cX11_town 33 = .ok (.putfield 90, 3) := by decide +kernel
theorem dX11_town_36 : decode cX11_town 36 = .ok (.aload_n 0, 1) := by decide +kernel
theorem dX11_town_37 : decode cX11_town 37 = .ok (.aload_n 0, 1) := by decide +kernel
theorem dX11_town_38 : decode cX11_town 38 = .ok (.getfield 32, 3) := by decide +kernel
theorem dX11_town_41 : decode cX11_town 41 = .ok (.invokevirtual 118, 3) := by decide +kernel
theorem dX11_town_44 : decode cX11_town 44 = .ok (.putfield 93, 3) := by decide +kernel
theorem dX11_town_47 : decode cX11_town 47 = .ok (.iload_n 1, 1) := by decide +kernel
theorem dX11_town_48 : decode cX11_town 48 = .ok (.ifCond .ne 9, 3) := by decide +kernel
theorem dX11_town_51 : decode cX11_town 51 = .ok (.aload_n 0, 1) := by decide +kernel
theorem dX11_town_52 : decode cX11_town 52 = .ok (.iconst 1, 1) := by decide +kernel
theorem dX11_town_53 : decode cX11_town 53 = .ok (.invokevirtual 99, 3) := by decide +kernel
theorem dX11_town_56 : decode cX11_town 56 = .ok (.ireturn, 1) := by decide +kernel
theorem dX11_town_57 : decode cX11_town 57 = .ok (.aload_n 0, 1) := by decide +kernel
theorem dX11_town_58 : decode cX11_town 58 = .ok (.getfield 20, 3) := by decide +kernel
theorem dX11_town_61 : decode cX11_town 61 = .ok (.astore_n 2, 1) := by decide +kernel
theorem dX11_town_62 : decode cX11_town 62 = .ok (.aload_n 0, 1) := by decide +kernel
theorem dX11_town_63 : decode cX11_town 63 = .ok (.aload_n 0, 1) := by decide +kernel
theorem dX11_town_64 : decode cX11_town 64 = .ok (.getfield 24, 3) := by decide +kernel
theorem dX11_town_67 : decode cX11_town 67 = .ok (.putfield 20, 3) := by decide +kernel
theorem dX11_town_70 : decode cX11_town 70 = .ok (.aload_n 0, 1) := by decide +kernel
theorem dX11_town_71 : decode cX11_town 71 = .ok (.aload_n 2, 1) := by decide +kernel
theorem dX11_town_72 : decode cX11_town 72 = .ok (.putfield 24, 3) := by decide +kernel
theorem dX11_town_75 : decode cX11_town 75 = .ok (.aload_n 0, 1) := by decide +kernel
theorem dX11_town_76 : decode cX11_town 76 = .ok (.getfield 39, 3) := by decide +kernel
theorem dX11_town_79 : decode cX11_town 79 = .ok (.aload_n 0, 1) := by decide +kernel
theorem dX11_town_80 : decode cX11_town 80 = .ok (.getfield 20, 3) := by decide +kernel
theorem dX11_town_83 : decode cX11_town 83 = .ok (.putfield 120, 3) := by decide +kernel
theorem dX11_town_86 : decode cX11_town 86 = .ok (.aload_n 0, 1) := by decide +kernel
theorem dX11_town_87 : decode cX11_town 87 = .ok (.getfield 46, 3) := by decide +kernel
theorem dX11_town_90 : decode cX11_town 90 = .ok (.aload_n 0, 1) := by decide +kernel
theorem dX11_town_91 : decode cX11_town 91 = .ok (.getfield 20, 3) := by decide +kernel
theorem dX11_town_94 : decode cX11_town 94 = .ok (.invokevirtual 96, 3) := by decide +kernel
theorem dX11_town_97 : decode cX11_town 97 = .ok (.aload_n 0, 1) := by decide +kernel
theorem dX11_town_98 : decode cX11_town 98 = .ok (.getfield 72, 3) := by decide +kernel
theorem dX11_town_101 : decode cX11_town 101 = .ok (.iconst 0, 1) := by decide +kernel
theorem dX11_town_102 : decode cX11_town 102 = .ok (.putfield 121, 3) := by decide +kernel
theorem dX11_town_105 : decode cX11_town 105 = .ok (.aload_n 0, 1) := by decide +kernel
theorem dX11_town_106 : decode cX11_town 106 = .ok (.getfield 56, 3) := by decide +kernel
theorem dX11_town_109 : decode cX11_town 109 = .ok (.iconst 0, 1) := by decide +kernel
theorem dX11_town_110 : decode cX11_town 110 = .ok (.putfield 124, 3) := by decide +kernel
theorem dX11_town_113 : decode cX11_town 113 = .ok (.aload_n 0, 1) := by decide +kernel
theorem dX11_town_114 : decode cX11_town 114 = .ok (.getfield 65, 3) := by decide +kernel
theorem dX11_town_117 : decode cX11_town 117 = .ok (.invokevirtual 125, 3) := by decide +kernel
theorem dX11_town_120 : decode cX11_town 120 = .ok (.aload_n 0, 1) := by decide +kernel
theorem dX11_town_121 : decode cX11_town 121 = .ok (.getfield 20, 3) := by decide +kernel
theorem dX11_town_124 : decode cX11_town 124 = .ok (.getfield 128, 3) := by decide +kernel
theorem dX11_town_127 : decode cX11_town 127 = .ok (.ireturn, 1) := by decide +kernel
theorem dX11_fault_0 : decode cX11_fault 0 = .ok (.iload_n 1, 1) := by decide +kernel
theorem dX11_fault_1 : decode cX11_fault 1 = .ok (.lookupswitch 37 #[(0, 27), (1, 32)], 27) := by decide +kernel
theorem dX11_fault_28 : decode cX11_fault 28 = .ok (.aload_n 0, 1) := by decide +kernel
theorem dX11_fault_29 : decode cX11_fault 29 = .ok (.getfield 90, 3) := by decide +kernel
theorem dX11_fault_32 : decode cX11_fault 32 = .ok (.ireturn, 1) := by decide +kernel
theorem dX11_fault_33 : decode cX11_fault 33 = .ok (.aload_n 0, 1) := by decide +kernel
theorem dX11_fault_34 : decode cX11_fault 34 = .ok (.getfield 93, 3) := by decide +kernel
theorem dX11_fault_37 : decode cX11_fault 37 = .ok (.ireturn, 1) := by decide +kernel
theorem dX11_fault_38 : decode cX11_fault 38 = .ok (.iconst (-1), 1) := by decide +kernel
theorem dX11_fault_39 : decode cX11_fault 39 = .ok (.ireturn, 1) := by decide +kernel
theorem dX11_has_0 : decode cX11_has 0 = .ok (.iload_n 1, 1) := by decide +kernel
theorem dX11_has_1 : decode cX11_has 1 = .ok (.tableswitch 156 0 11 #[63, 71, 79, 87, 95, 103, 111, 119, 127, 135, 143, 151], 63) := by decide +kernel
theorem dX11_has_64 : decode cX11_has 64 = .ok (.aload_n 0, 1) := by decide +kernel
theorem dX11_has_65 : decode cX11_has 65 = .ok (.getfield 20, 3) := by decide +kernel
theorem dX11_has_68 : decode cX11_has 68 = .ok (.getfield 131, 3) := by decide +kernel
theorem dX11_has_71 : decode cX11_has 71 = .ok (.ireturn, 1) := by decide +kernel
theorem dX11_has_72 : decode cX11_has 72 = .ok (.aload_n 0, 1) := by decide +kernel
theorem dX11_has_73 : decode cX11_has 73 = .ok (.getfield 20, 3) := by decide +kernel
theorem dX11_has_76 : decode cX11_has 76 = .ok (.getfield 134, 3) := by decide +kernel
theorem dX11_has_79 : decode cX11_has 79 = .ok (.ireturn, 1) := by decide +kernel
theorem dX11_has_80 : decode cX11_has 80 = .ok (.aload_n 0, 1) := by decide +kernel
theorem dX11_has_81 : decode cX11_has 81 = .ok (.getfield 46, 3) := by decide +kernel
theorem dX11_has_84 : decode cX11_has 84 = .ok (.getfield 137, 3) := by decide +kernel
theorem dX11_has_87 : decode cX11_has 87 = .ok (.ireturn, 1) := by decide +kernel
theorem dX11_has_88 : decode cX11_has 88 = .ok (.aload_n 0, 1) := by decide +kernel
theorem dX11_has_89 : decode cX11_has 89 = .ok (.getfield 46, 3) := by decide +kernel
theorem dX11_has_92 : decode cX11_has 92 = .ok (.getfield 140, 3) := by decide +kernel
theorem dX11_has_95 : decode cX11_has 95 = .ok (.ireturn, 1) := by decide +kernel
theorem dX11_has_96 : decode cX11_has 96 = .ok (.aload_n 0, 1) := by decide +kernel
theorem dX11_has_97 : decode cX11_has 97 = .ok (.getfield 46, 3) := by decide +kernel
theorem dX11_has_100 : decode cX11_has 100 = .ok (.invokevirtual 143, 3) := by decide +kernel
theorem dX11_has_103 : decode cX11_has 103 = .ok (.ireturn, 1) := by decide +kernel
theorem dX11_has_104 : decode cX11_has 104 = .ok (.aload_n 0, 1) := by decide +kernel
theorem dX11_has_105 : decode cX11_has 105 = .ok (.getfield 46, 3) := by decide +kernel
theorem dX11_has_108 : decode cX11_has 108 = .ok (.invokevirtual 146, 3) := by decide +kernel
theorem dX11_has_111 : decode cX11_has 111 = .ok (.ireturn, 1) := by decide +kernel
theorem dX11_has_112 : decode cX11_has 112 = .ok (.aload_n 0, 1) := by decide +kernel
theorem dX11_has_113 : decode cX11_has 113 = .ok (.getfield 46, 3) := by decide +kernel
theorem dX11_has_116 : decode cX11_has 116 = .ok (.invokevirtual 149, 3) := by decide +kernel
theorem dX11_has_119 : decode cX11_has 119 = .ok (.ireturn, 1) := by decide +kernel
theorem dX11_has_120 : decode cX11_has 120 = .ok (.aload_n 0, 1) := by decide +kernel
theorem dX11_has_121 : decode cX11_has 121 = .ok (.getfield 46, 3) := by decide +kernel
theorem dX11_has_124 : decode cX11_has 124 = .ok (.invokevirtual 152, 3) := by decide +kernel
theorem dX11_has_127 : decode cX11_has 127 = .ok (.ireturn, 1) := by decide +kernel
theorem dX11_has_128 : decode cX11_has 128 = .ok (.aload_n 0, 1) := by decide +kernel
theorem dX11_has_129 : decode cX11_has 129 = .ok (.getfield 46, 3) := by decide +kernel
theorem dX11_has_132 : decode cX11_has 132 = .ok (.getfield 155, 3) := by decide +kernel
theorem dX11_has_135 : decode cX11_has 135 = .ok (.ireturn, 1) := by decide +kernel
theorem dX11_has_136 : decode cX11_has 136 = .ok (.aload_n 0, 1) := by decide +kernel
theorem dX11_has_137 : decode cX11_has 137 = .ok (.getfield 72, 3) := by decide +kernel
theorem dX11_has_140 : decode cX11_has 140 = .ok (.getfield 121, 3) := by decide +kernel
theorem dX11_has_143 : decode cX11_has 143 = .ok (.ireturn, 1) := by decide +kernel
theorem dX11_has_144 : decode cX11_has 144 = .ok (.aload_n 0, 1) := by decide +kernel
theorem dX11_has_145 : decode cX11_has 145 = .ok (.getfield 56, 3) := by decide +kernel
theorem dX11_has_148 : decode cX11_has 148 = .ok (.getfield 124, 3) := by decide +kernel
theorem dX11_has_151 : decode cX11_has 151 = .ok (.ireturn, 1) := by decide +kernel
theorem dX11_has_152 : decode cX11_has 152 = .ok (.aload_n 0, 1) := by decide +kernel
theorem dX11_has_153 : decode cX11_has 153 = .ok (.getfield 87, 3) := by decide +kernel
theorem dX11_has_156 : decode cX11_has 156 = .ok (.ireturn, 1) := by decide +kernel
theorem dX11_has_157 : decode cX11_has 157 = .ok (.iconst (-1), 1) := by decide +kernel
theorem dX11_has_158 : decode cX11_has 158 = .ok (.ireturn, 1) := by decide +kernel
theorem dX11_letter_0 : decode cX11_letter 0 = .ok (.iload_n 3, 1) := by decide +kernel
theorem dX11_letter_1 : decode cX11_letter 1 = .ok (.ifCond .lt 9, 3) := by decide +kernel
theorem dX11_letter_4 : decode cX11_letter 4 = .ok (.iload_n 3, 1) := by decide +kernel
theorem dX11_letter_5 : decode cX11_letter 5 = .ok (.bipush 6, 2) := by decide +kernel
theorem dX11_letter_7 : decode cX11_letter 7 = .ok (.if_icmp .lt 5, 3) := by decide +kernel
theorem dX11_letter_10 : decode cX11_letter 10 = .ok (.iconst (-1), 1) := by decide +kernel
theorem dX11_letter_11 : decode cX11_letter 11 = .ok (.ireturn, 1) := by decide +kernel
theorem dX11_letter_12 : decode cX11_letter 12 = .ok (.iload_n 1, 1) := by decide +kernel
theorem dX11_letter_13 : decode cX11_letter 13 = .ok (.ifCond .ne 30, 3) := by decide +kernel
theorem dX11_letter_16 : decode cX11_letter 16 = .ok (.aload_n 0, 1) := by decide +kernel
theorem dX11_letter_17 : decode cX11_letter 17 = .ok (.iload_n 2, 1) := by decide +kernel
theorem dX11_letter_18 : decode cX11_letter 18 = .ok (.invokevirtual 158, 3) := by decide +kernel
theorem dX11_letter_21 : decode cX11_letter 21 = .ok (.ifCond .eq 22, 3) := by decide +kernel
theorem dX11_letter_24 : decode cX11_letter 24 = .ok (.aload_n 0, 1) := by decide +kernel
theorem dX11_letter_25 : decode cX11_letter 25 = .ok (.getfield 20, 3) := by decide +kernel
theorem dX11_letter_28 : decode cX11_letter 28 = .ok (.getfield 161, 3) := by decide +kernel
theorem dX11_letter_31 : decode cX11_letter 31 = .ok (.iload_n 2, 1) := by decide +kernel
theorem dX11_letter_32 : decode cX11_letter 32 = .ok (.iaload, 1) := by decide +kernel
theorem dX11_letter_33 : decode cX11_letter 33 = .ok (.getstatic 164, 3) := by decide +kernel
theorem dX11_letter_36 : decode cX11_letter 36 = .ok (.iload_n 3, 1) := by decide +kernel
theorem dX11_letter_37 : decode cX11_letter 37 = .ok (.iaload, 1) := by decide +kernel
theorem dX11_letter_38 : decode cX11_letter 38 = .ok (.idiv, 1) := by decide +kernel
theorem dX11_letter_39 : decode cX11_letter 39 = .ok (.bipush 27, 2) := by decide +kernel
theorem dX11_letter_41 : decode cX11_letter 41 = .ok (.irem, 1) := by decide +kernel
theorem dX11_letter_42 : decode cX11_letter 42 = .ok (.ireturn, 1) := by decide +kernel
theorem dX11_letter_43 : decode cX11_letter 43 = .ok (.iload_n 1, 1) := by decide +kernel
theorem dX11_letter_44 : decode cX11_letter 44 = .ok (.iconst 1, 1) := by decide +kernel
theorem dX11_letter_45 : decode cX11_letter 45 = .ok (.if_icmp .ne 30, 3) := by decide +kernel
theorem dX11_letter_48 : decode cX11_letter 48 = .ok (.aload_n 0, 1) := by decide +kernel
theorem dX11_letter_49 : decode cX11_letter 49 = .ok (.iload_n 2, 1) := by decide +kernel
theorem dX11_letter_50 : decode cX11_letter 50 = .ok (.invokevirtual 167, 3) := by decide +kernel
theorem dX11_letter_53 : decode cX11_letter 53 = .ok (.ifCond .eq 22, 3) := by decide +kernel
theorem dX11_letter_56 : decode cX11_letter 56 = .ok (.aload_n 0, 1) := by decide +kernel
theorem dX11_letter_57 : decode cX11_letter 57 = .ok (.getfield 20, 3) := by decide +kernel
theorem dX11_letter_60 : decode cX11_letter 60 = .ok (.getfield 170, 3) := by decide +kernel
theorem dX11_letter_63 : decode cX11_letter 63 = .ok (.iload_n 2, 1) := by decide +kernel
theorem dX11_letter_64 : decode cX11_letter 64 = .ok (.iaload, 1) := by decide +kernel
theorem dX11_letter_65 : decode cX11_letter 65 = .ok (.getstatic 164, 3) := by decide +kernel
theorem dX11_letter_68 : decode cX11_letter 68 = .ok (.iload_n 3, 1) := by decide +kernel
theorem dX11_letter_69 : decode cX11_letter 69 = .ok (.iaload, 1) := by decide +kernel
theorem dX11_letter_70 : decode cX11_letter 70 = .ok (.idiv, 1) := by decide +kernel
theorem dX11_letter_71 : decode cX11_letter 71 = .ok (.bipush 27, 2) := by decide +kernel
theorem dX11_letter_73 : decode cX11_letter 73 = .ok (.irem, 1) := by decide +kernel
theorem dX11_letter_74 : decode cX11_letter 74 = .ok (.ireturn, 1) := by decide +kernel
theorem dX11_letter_75 : decode cX11_letter 75 = .ok (.iconst (-1), 1) := by decide +kernel
theorem dX11_letter_76 : decode cX11_letter 76 = .ok (.ireturn, 1) := by decide +kernel
theorem dX11_child_0 : decode cX11_child 0 = .ok (.aload_n 0, 1) := by decide +kernel
theorem dX11_child_1 : decode cX11_child 1 = .ok (.iload_n 1, 1) := by decide +kernel
theorem dX11_child_2 : decode cX11_child 2 = .ok (.invokevirtual 158, 3) := by decide +kernel
theorem dX11_child_5 : decode cX11_child 5 = .ok (.ifCond .ne 5, 3) := by decide +kernel
theorem dX11_child_8 : decode cX11_child 8 = .ok (.iconst (-1), 1) := by decide +kernel
theorem dX11_child_9 : decode cX11_child 9 = .ok (.ireturn, 1) := by decide +kernel
theorem dX11_child_10 : decode cX11_child 10 = .ok (.iload_n 2, 1) := by decide +kernel
theorem dX11_child_11 : decode cX11_child 11 = .ok (.tableswitch 118 0 6 #[41, 51, 61, 71, 81, 98, 108], 41) := by decide +kernel
theorem dX11_child_52 : decode cX11_child 52 = .ok (.aload_n 0, 1) := by decide +kernel
theorem dX11_child_53 : decode cX11_child 53 = .ok (.getfield 20, 3) := by decide +kernel
theorem dX11_child_56 : decode cX11_child 56 = .ok (.getfield 173, 3) := by decide +kernel
theorem dX11_child_59 : decode cX11_child 59 = .ok (.iload_n 1, 1) := by decide +kernel
theorem dX11_child_60 : decode cX11_child 60 = .ok (.iaload, 1) := by decide +kernel
theorem dX11_child_61 : decode cX11_child 61 = .ok (.ireturn, 1) := by decide +kernel
theorem dX11_child_62 : decode cX11_child 62 = .ok (.aload_n 0, 1) := by decide +kernel
theorem dX11_child_63 : decode cX11_child 63 = .ok (.getfield 20, 3) := by decide +kernel
theorem dX11_child_66 : decode cX11_child 66 = .ok (.getfield 176, 3) := by decide +kernel
theorem dX11_child_69 : decode cX11_child 69 = .ok (.iload_n 1, 1) := by decide +kernel
theorem dX11_child_70 : decode cX11_child 70 = .ok (.iaload, 1) := by decide +kernel
theorem dX11_child_71 : decode cX11_child 71 = .ok (.ireturn, 1) := by decide +kernel
theorem dX11_child_72 : decode cX11_child 72 = .ok (.aload_n 0, 1) := by decide +kernel
theorem dX11_child_73 : decode cX11_child 73 = .ok (.getfield 46, 3) := by decide +kernel
theorem dX11_child_76 : decode cX11_child 76 = .ok (.getfield 179, 3) := by decide +kernel
theorem dX11_child_79 : decode cX11_child 79 = .ok (.iload_n 1, 1) := by decide +kernel
theorem dX11_child_80 : decode cX11_child 80 = .ok (.iaload, 1) := by decide +kernel
theorem dX11_child_81 : decode cX11_child 81 = .ok (.ireturn, 1) := by decide +kernel
theorem dX11_child_82 : decode cX11_child 82 = .ok (.aload_n 0, 1) := by decide +kernel
theorem dX11_child_83 : decode cX11_child 83 = .ok (.getfield 46, 3) := by decide +kernel
theorem dX11_child_86 : decode cX11_child 86 = .ok (.getfield 182, 3) := by decide +kernel
theorem dX11_child_89 : decode cX11_child 89 = .ok (.iload_n 1, 1) := by decide +kernel
theorem dX11_child_90 : decode cX11_child 90 = .ok (.iaload, 1) := by decide +kernel
theorem dX11_child_91 : decode cX11_child 91 = .ok (.ireturn, 1) := by decide +kernel
theorem dX11_child_92 : decode cX11_child 92 = .ok (.aload_n 0, 1) := by decide +kernel
theorem dX11_child_93 : decode cX11_child 93 = .ok (.getfield 46, 3) := by decide +kernel
theorem dX11_child_96 : decode cX11_child 96 = .ok (.iload_n 1, 1) := by decide +kernel
theorem dX11_child_97 : decode cX11_child 97 = .ok (.invokevirtual 185, 3) := by decide +kernel
theorem dX11_child_100 : decode cX11_child 100 = .ok (.ifCond .eq 7, 3) := by decide +kernel
theorem dX11_child_103 : decode cX11_child 103 = .ok (.iconst 1, 1) := by decide +kernel
theorem dX11_child_104 : decode cX11_child 104 = .ok (.goto 4, 3) := by decide +kernel
theorem dX11_child_107 : decode cX11_child 107 = .ok (.iconst 0, 1) := by decide +kernel
theorem dX11_child_108 : decode cX11_child 108 = .ok (.ireturn, 1) := by decide +kernel
theorem dX11_child_109 : decode cX11_child 109 = .ok (.aload_n 0, 1) := by decide +kernel
theorem dX11_child_110 : decode cX11_child 110 = .ok (.getfield 46, 3) := by decide +kernel
theorem dX11_child_113 : decode cX11_child 113 = .ok (.getfield 188, 3) := by decide +kernel
theorem dX11_child_116 : decode cX11_child 116 = .ok (.iload_n 1, 1) := by decide +kernel
theorem dX11_child_117 : decode cX11_child 117 = .ok (.iaload, 1) := by decide +kernel
theorem dX11_child_118 : decode cX11_child 118 = .ok (.ireturn, 1) := by decide +kernel
theorem dX11_child_119 : decode cX11_child 119 = .ok (.aload_n 0, 1) := by decide +kernel
theorem dX11_child_120 : decode cX11_child 120 = .ok (.getfield 46, 3) := by decide +kernel
theorem dX11_child_123 : decode cX11_child 123 = .ok (.getfield 191, 3) := by decide +kernel
theorem dX11_child_126 : decode cX11_child 126 = .ok (.iload_n 1, 1) := by decide +kernel
theorem dX11_child_127 : decode cX11_child 127 = .ok (.iaload, 1) := by decide +kernel
theorem dX11_child_128 : decode cX11_child 128 = .ok (.ireturn, 1) := by decide +kernel
theorem dX11_child_129 : decode cX11_child 129 = .ok (.iconst (-1), 1) := by decide +kernel
theorem dX11_child_130 : decode cX11_child 130 = .ok (.ireturn, 1) := by decide +kernel
theorem dX11_kiln_0 : decode cX11_kiln 0 = .ok (.aload_n 0, 1) := by decide +kernel
theorem dX11_kiln_1 : decode cX11_kiln 1 = .ok (.iload_n 1, 1) := by decide +kernel
theorem dX11_kiln_2 : decode cX11_kiln 2 = .ok (.invokevirtual 167, 3) := by decide +kernel
theorem dX11_kiln_5 : decode cX11_kiln 5 = .ok (.ifCond .ne 5, 3) := by decide +kernel
theorem dX11_kiln_8 : decode cX11_kiln 8 = .ok (.iconst (-1), 1) := by decide +kernel
theorem dX11_kiln_9 : decode cX11_kiln 9 = .ok (.ireturn, 1) := by decide +kernel
theorem dX11_kiln_10 : decode cX11_kiln 10 = .ok (.iload_n 2, 1) := by decide +kernel
theorem dX11_kiln_11 : decode cX11_kiln 11 = .ok (.tableswitch 88 0 3 #[29, 39, 48, 58], 29) := by decide +kernel
theorem dX11_kiln_40 : decode cX11_kiln 40 = .ok (.aload_n 0, 1) := by decide +kernel
theorem dX11_kiln_41 : decode cX11_kiln 41 = .ok (.getfield 20, 3) := by decide +kernel
theorem dX11_kiln_44 : decode cX11_kiln 44 = .ok (.getfield 194, 3) := by decide +kernel
theorem dX11_kiln_47 : decode cX11_kiln 47 = .ok (.iload_n 1, 1) := by decide +kernel
theorem dX11_kiln_48 : decode cX11_kiln 48 = .ok (.iaload, 1) := by decide +kernel
theorem dX11_kiln_49 : decode cX11_kiln 49 = .ok (.ireturn, 1) := by decide +kernel
theorem dX11_kiln_50 : decode cX11_kiln 50 = .ok (.aload_n 0, 1) := by decide +kernel
theorem dX11_kiln_51 : decode cX11_kiln 51 = .ok (.getfield 46, 3) := by decide +kernel
theorem dX11_kiln_54 : decode cX11_kiln 54 = .ok (.iload_n 1, 1) := by decide +kernel
theorem dX11_kiln_55 : decode cX11_kiln 55 = .ok (.invokevirtual 197, 3) := by decide +kernel
theorem dX11_kiln_58 : decode cX11_kiln 58 = .ok (.ireturn, 1) := by decide +kernel
theorem dX11_kiln_59 : decode cX11_kiln 59 = .ok (.aload_n 0, 1) := by decide +kernel
theorem dX11_kiln_60 : decode cX11_kiln 60 = .ok (.getfield 46, 3) := by decide +kernel
theorem dX11_kiln_63 : decode cX11_kiln 63 = .ok (.getfield 200, 3) := by decide +kernel
theorem dX11_kiln_66 : decode cX11_kiln 66 = .ok (.iload_n 1, 1) := by decide +kernel
theorem dX11_kiln_67 : decode cX11_kiln 67 = .ok (.iaload, 1) := by decide +kernel
theorem dX11_kiln_68 : decode cX11_kiln 68 = .ok (.ireturn, 1) := by decide +kernel
theorem dX11_kiln_69 : decode cX11_kiln 69 = .ok (.aload_n 0, 1) := by decide +kernel
theorem dX11_kiln_70 : decode cX11_kiln 70 = .ok (.getfield 46, 3) := by decide +kernel
theorem dX11_kiln_73 : decode cX11_kiln 73 = .ok (.getfield 200, 3) := by decide +kernel
theorem dX11_kiln_76 : decode cX11_kiln 76 = .ok (.iload_n 1, 1) := by decide +kernel
theorem dX11_kiln_77 : decode cX11_kiln 77 = .ok (.iaload, 1) := by decide +kernel
theorem dX11_kiln_78 : decode cX11_kiln 78 = .ok (.iconst (-1), 1) := by decide +kernel
theorem dX11_kiln_79 : decode cX11_kiln 79 = .ok (.if_icmp .ne 7, 3) := by decide +kernel
theorem dX11_kiln_82 : decode cX11_kiln 82 = .ok (.iconst (-1), 1) := by decide +kernel
theorem dX11_kiln_83 : decode cX11_kiln 83 = .ok (.goto 15, 3) := by decide +kernel
theorem dX11_kiln_86 : decode cX11_kiln 86 = .ok (.aload_n 0, 1) := by decide +kernel
theorem dX11_kiln_87 : decode cX11_kiln 87 = .ok (.getfield 39, 3) := by decide +kernel
theorem dX11_kiln_90 : decode cX11_kiln 90 = .ok (.aload_n 0, 1) := by decide +kernel
theorem dX11_kiln_91 : decode cX11_kiln 91 = .ok (.getfield 46, 3) := by decide +kernel
theorem dX11_kiln_94 : decode cX11_kiln 94 = .ok (.iload_n 1, 1) := by decide +kernel
theorem dX11_kiln_95 : decode cX11_kiln 95 = .ok (.invokevirtual 203, 3) := by decide +kernel
theorem dX11_kiln_98 : decode cX11_kiln 98 = .ok (.ireturn, 1) := by decide +kernel
theorem dX11_kiln_99 : decode cX11_kiln 99 = .ok (.iconst (-1), 1) := by decide +kernel
theorem dX11_kiln_100 : decode cX11_kiln 100 = .ok (.ireturn, 1) := by decide +kernel
theorem dX11_place_0 : decode cX11_place 0 = .ok (.aload_n 0, 1) := by decide +kernel
theorem dX11_place_1 : decode cX11_place 1 = .ok (.iload_n 1, 1) := by decide +kernel
theorem dX11_place_2 : decode cX11_place 2 = .ok (.iload_n 2, 1) := by decide +kernel
theorem dX11_place_3 : decode cX11_place 3 = .ok (.invokevirtual 207, 3) := by decide +kernel
theorem dX11_place_6 : decode cX11_place 6 = .ok (.ifCond .eq 15, 3) := by decide +kernel
theorem dX11_place_9 : decode cX11_place 9 = .ok (.aload_n 0, 1) := by decide +kernel
theorem dX11_place_10 : decode cX11_place 10 = .ok (.getfield 46, 3) := by decide +kernel
theorem dX11_place_13 : decode cX11_place 13 = .ok (.iload_n 1, 1) := by decide +kernel
theorem dX11_place_14 : decode cX11_place 14 = .ok (.iload_n 2, 1) := by decide +kernel
theorem dX11_place_15 : decode cX11_place 15 = .ok (.invokevirtual 211, 3) := by decide +kernel
theorem dX11_place_18 : decode cX11_place 18 = .ok (.goto 4, 3) := by decide +kernel
theorem dX11_place_21 : decode cX11_place 21 = .ok (.iconst (-1), 1) := by decide +kernel
theorem dX11_place_22 : decode cX11_place 22 = .ok (.ireturn, 1) := by decide +kernel
theorem dX11_rings_0 : decode cX11_rings 0 = .ok (.aload_n 0, 1) := by decide +kernel
theorem dX11_rings_1 : decode cX11_rings 1 = .ok (.iload_n 1, 1) := by decide +kernel
theorem dX11_rings_2 : decode cX11_rings 2 = .ok (.invokevirtual 158, 3) := by decide +kernel
theorem dX11_rings_5 : decode cX11_rings 5 = .ok (.ifCond .eq 17, 3) := by decide +kernel
theorem dX11_rings_8 : decode cX11_rings 8 = .ok (.iload_n 2, 1) := by decide +kernel
theorem dX11_rings_9 : decode cX11_rings 9 = .ok (.invokestatic 215, 3) := by decide +kernel
theorem dX11_rings_12 : decode cX11_rings 12 = .ok (.ifCond .eq 10, 3) := by decide +kernel
theorem dX11_rings_15 : decode cX11_rings 15 = .ok (.iload_n 3, 1) := by decide +kernel
theorem dX11_rings_16 : decode cX11_rings 16 = .ok (.invokestatic 218, 3) := by decide +kernel
theorem dX11_rings_19 : decode cX11_rings 19 = .ok (.ifCond .ne 5, 3) := by decide +kernel
theorem dX11_rings_22 : decode cX11_rings 22 = .ok (.iconst (-1), 1) := by decide +kernel
theorem dX11_rings_23 : decode cX11_rings 23 = .ok (.ireturn, 1) := by decide +kernel
theorem dX11_rings_24 : decode cX11_rings 24 = .ok (.aload_n 0, 1) := by decide +kernel
theorem dX11_rings_25 : decode cX11_rings 25 = .ok (.getfield 39, 3) := by decide +kernel
theorem dX11_rings_28 : decode cX11_rings 28 = .ok (.iload_n 1, 1) := by decide +kernel
theorem dX11_rings_29 : decode cX11_rings 29 = .ok (.iload_n 2, 1) := by decide +kernel
theorem dX11_rings_30 : decode cX11_rings 30 = .ok (.iload_n 3, 1) := by decide +kernel
theorem dX11_rings_31 : decode cX11_rings 31 = .ok (.aload_n 0, 1) := by decide +kernel
theorem dX11_rings_32 : decode cX11_rings 32 = .ok (.getfield 46, 3) := by decide +kernel
theorem dX11_rings_35 : decode cX11_rings 35 = .ok (.getfield 137, 3) := by decide +kernel
theorem dX11_rings_38 : decode cX11_rings 38 = .ok (.invokevirtual 221, 3) := by decide +kernel
theorem dX11_rings_41 : decode cX11_rings 41 = .ok (.ireturn, 1) := by decide +kernel
theorem dX11_cracks_0 : decode cX11_cracks 0 = .ok (.aload_n 0, 1) := by decide +kernel
theorem dX11_cracks_1 : decode cX11_cracks 1 = .ok (.iload_n 1, 1) := by decide +kernel
theorem dX11_cracks_2 : decode cX11_cracks 2 = .ok (.invokevirtual 158, 3) := by decide +kernel
theorem dX11_cracks_5 : decode cX11_cracks 5 = .ok (.ifCond .eq 17, 3) := by decide +kernel
theorem dX11_cracks_8 : decode cX11_cracks 8 = .ok (.iload_n 2, 1) := by decide +kernel
theorem dX11_cracks_9 : decode cX11_cracks 9 = .ok (.invokestatic 215, 3) := by decide +kernel
theorem dX11_cracks_12 : decode cX11_cracks 12 = .ok (.ifCond .eq 10, 3) := by decide +kernel
theorem dX11_cracks_15 : decode cX11_cracks 15 = .ok (.iload_n 3, 1) := by decide +kernel
theorem dX11_cracks_16 : decode cX11_cracks 16 = .ok (.invokestatic 218, 3) := by decide +kernel
theorem dX11_cracks_19 : decode cX11_cracks 19 = .ok (.ifCond .ne 5, 3) := by decide +kernel
theorem dX11_cracks_22 : decode cX11_cracks 22 = .ok (.iconst (-1), 1) := by decide +kernel
theorem dX11_cracks_23 : decode cX11_cracks 23 = .ok (.ireturn, 1) := by decide +kernel
theorem dX11_cracks_24 : decode cX11_cracks 24 = .ok (.aload_n 0, 1) := by decide +kernel
theorem dX11_cracks_25 : decode cX11_cracks 25 = .ok (.getfield 39, 3) := by decide +kernel
theorem dX11_cracks_28 : decode cX11_cracks 28 = .ok (.iload_n 1, 1) := by decide +kernel
theorem dX11_cracks_29 : decode cX11_cracks 29 = .ok (.iload_n 2, 1) := by decide +kernel
theorem dX11_cracks_30 : decode cX11_cracks 30 = .ok (.iload_n 3, 1) := by decide +kernel
theorem dX11_cracks_31 : decode cX11_cracks 31 = .ok (.aload_n 0, 1) := by decide +kernel
theorem dX11_cracks_32 : decode cX11_cracks 32 = .ok (.getfield 46, 3) := by decide +kernel
theorem dX11_cracks_35 : decode cX11_cracks 35 = .ok (.getfield 137, 3) := by decide +kernel
theorem dX11_cracks_38 : decode cX11_cracks 38 = .ok (.invokevirtual 221, 3) := by decide +kernel
theorem dX11_cracks_41 : decode cX11_cracks 41 = .ok (.istore 4, 2) := by decide +kernel
theorem dX11_cracks_43 : decode cX11_cracks 43 = .ok (.aload_n 0, 1) := by decide +kernel
theorem dX11_cracks_44 : decode cX11_cracks 44 = .ok (.getfield 39, 3) := by decide +kernel
theorem dX11_cracks_47 : decode cX11_cracks 47 = .ok (.iload_n 1, 1) := by decide +kernel
theorem dX11_cracks_48 : decode cX11_cracks 48 = .ok (.iload_n 2, 1) := by decide +kernel
theorem dX11_cracks_49 : decode cX11_cracks 49 = .ok (.iload_n 3, 1) := by decide +kernel
theorem dX11_cracks_50 : decode cX11_cracks 50 = .ok (.aload_n 0, 1) := by decide +kernel
theorem dX11_cracks_51 : decode cX11_cracks 51 = .ok (.getfield 46, 3) := by decide +kernel
theorem dX11_cracks_54 : decode cX11_cracks 54 = .ok (.getfield 137, 3) := by decide +kernel
theorem dX11_cracks_57 : decode cX11_cracks 57 = .ok (.iload 4, 2) := by decide +kernel
theorem dX11_cracks_59 : decode cX11_cracks 59 = .ok (.invokevirtual 225, 3) := by decide +kernel
theorem dX11_cracks_62 : decode cX11_cracks 62 = .ok (.ifCond .eq 7, 3) := by decide +kernel
theorem dX11_cracks_65 : decode cX11_cracks 65 = .ok (.iconst 1, 1) := by decide +kernel
theorem dX11_cracks_66 : decode cX11_cracks 66 = .ok (.goto 4, 3) := by decide +kernel
theorem dX11_cracks_69 : decode cX11_cracks 69 = .ok (.iconst 0, 1) := by decide +kernel
theorem dX11_cracks_70 : decode cX11_cracks 70 = .ok (.ireturn, 1) := by decide +kernel
theorem dX11_heats_0 : decode cX11_heats 0 = .ok (.aload_n 0, 1) := by decide +kernel
theorem dX11_heats_1 : decode cX11_heats 1 = .ok (.iload_n 1, 1) := by decide +kernel
theorem dX11_heats_2 : decode cX11_heats 2 = .ok (.invokevirtual 158, 3) := by decide +kernel
theorem dX11_heats_5 : decode cX11_heats 5 = .ok (.ifCond .eq 10, 3) := by decide +kernel
theorem dX11_heats_8 : decode cX11_heats 8 = .ok (.iload_n 2, 1) := by decide +kernel
theorem dX11_heats_9 : decode cX11_heats 9 = .ok (.invokestatic 218, 3) := by decide +kernel
theorem dX11_heats_12 : decode cX11_heats 12 = .ok (.ifCond .ne 5, 3) := by decide +kernel
theorem dX11_heats_15 : decode cX11_heats 15 = .ok (.iconst (-1), 1) := by decide +kernel
theorem dX11_heats_16 : decode cX11_heats 16 = .ok (.ireturn, 1) := by decide +kernel
theorem dX11_heats_17 : decode cX11_heats 17 = .ok (.iconst 0, 1) := by decide +kernel
theorem dX11_heats_18 : decode cX11_heats 18 = .ok (.istore 5, 2) := by decide +kernel
theorem dX11_heats_20 : decode cX11_heats 20 = .ok (.iconst 0, 1) := by decide +kernel
theorem dX11_heats_21 : decode cX11_heats 21 = .ok (.istore 6, 2) := by decide +kernel
theorem dX11_heats_23 : decode cX11_heats 23 = .ok (.iload 6, 2) := by decide +kernel
theorem dX11_heats_25 : decode cX11_heats 25 = .ok (.bipush 20, 2) := by decide +kernel
theorem dX11_heats_27 : decode cX11_heats 27 = .ok (.if_icmp .gt 86, 3) := by decide +kernel
theorem dX11_heats_30 : decode cX11_heats 30 = .ok (.aload_n 0, 1) := by decide +kernel
theorem dX11_heats_31 : decode cX11_heats 31 = .ok (.getfield 39, 3) := by decide +kernel
theorem dX11_heats_34 : decode cX11_heats 34 = .ok (.iload_n 1, 1) := by decide +kernel
theorem dX11_heats_35 : decode cX11_heats 35 = .ok (.iload 6, 2) := by decide +kernel
theorem dX11_heats_37 : decode cX11_heats 37 = .ok (.iload_n 2, 1) := by decide +kernel
theorem dX11_heats_38 : decode cX11_heats 38 = .ok (.aload_n 0, 1) := by decide +kernel
theorem dX11_heats_39 : decode cX11_heats 39 = .ok (.getfield 46, 3) := by decide +kernel
theorem dX11_heats_42 : decode cX11_heats 42 = .ok (.getfield 137, 3) := by decide +kernel
theorem dX11_heats_45 : decode cX11_heats 45 = .ok (.invokevirtual 221, 3) := by decide +kernel
theorem dX11_heats_48 : decode cX11_heats 48 = .ok (.istore 7, 2) := by decide +kernel
theorem dX11_heats_50 : decode cX11_heats 50 = .ok (.iload 7, 2) := by decide +kernel
theorem dX11_heats_52 : decode cX11_heats 52 = .ok (.iload_n 3, 1) := by decide +kernel
theorem dX11_heats_53 : decode cX11_heats 53 = .ok (.if_icmp .lt 14, 3) := by decide +kernel
theorem dX11_heats_56 : decode cX11_heats 56 = .ok (.iload 7, 2) := by decide +kernel
theorem dX11_heats_58 : decode cX11_heats 58 = .ok (.iload 4, 2) := by decide +kernel
theorem dX11_heats_60 : decode cX11_heats 60 = .ok (.if_icmp .gt 7, 3) := by decide +kernel
theorem dX11_heats_63 : decode cX11_heats 63 = .ok (.iconst 1, 1) := by decide +kernel
theorem dX11_heats_64 : decode cX11_heats 64 = .ok (.goto 4, 3) := by decide +kernel
theorem dX11_heats_67 : decode cX11_heats 67 = .ok (.iconst 0, 1) := by decide +kernel
theorem dX11_heats_68 : decode cX11_heats 68 = .ok (.istore 8, 2) := by decide +kernel
theorem dX11_heats_70 : decode cX11_heats 70 = .ok (.iload 8, 2) := by decide +kernel
theorem dX11_heats_72 : decode cX11_heats 72 = .ok (.ifCond .eq 35, 3) := by decide +kernel
theorem dX11_heats_75 : decode cX11_heats 75 = .ok (.aload_n 0, 1) := by decide +kernel
theorem dX11_heats_76 : decode cX11_heats 76 = .ok (.getfield 39, 3) := by decide +kernel
theorem dX11_heats_79 : decode cX11_heats 79 = .ok (.iload_n 1, 1) := by decide +kernel
theorem dX11_heats_80 : decode cX11_heats 80 = .ok (.iload 6, 2) := by decide +kernel
theorem dX11_heats_82 : decode cX11_heats 82 = .ok (.iload_n 2, 1) := by decide +kernel
theorem dX11_heats_83 : decode cX11_heats 83 = .ok (.aload_n 0, 1) := by decide +kernel
theorem dX11_heats_84 : decode cX11_heats 84 = .ok (.getfield 46, 3) := by decide +kernel
theorem dX11_heats_87 : decode cX11_heats 87 = .ok (.getfield 137, 3) := by decide +kernel
theorem dX11_heats_90 : decode cX11_heats 90 = .ok (.iload 7, 2) := by decide +kernel
theorem dX11_heats_92 : decode cX11_heats 92 = .ok (.invokevirtual 225, 3) := by decide +kernel
theorem dX11_heats_95 : decode cX11_heats 95 = .ok (.ifCond .ne 12, 3) := by decide +kernel
theorem dX11_heats_98 : decode cX11_heats 98 = .ok (.iload 5, 2) := by decide +kernel
theorem dX11_heats_100 : decode cX11_heats 100 = .ok (.iconst 1, 1) := by decide +kernel
theorem dX11_heats_101 : decode cX11_heats 101 = .ok (.iload 6, 2) := by decide +kernel
theorem dX11_heats_103 : decode cX11_heats 103 = .ok (.ishl, 1) := by decide +kernel
theorem dX11_heats_104 : decode cX11_heats 104 = .ok (.ior, 1) := by decide +kernel
theorem dX11_heats_105 : decode cX11_heats 105 = .ok (.istore 5, 2) := by decide +kernel
theorem dX11_heats_107 : decode cX11_heats 107 = .ok (.iinc 6 1, 3) := by decide +kernel
theorem dX11_heats_110 : decode cX11_heats 110 = .ok (.goto (-87), 3) := by decide +kernel
theorem dX11_heats_113 : decode cX11_heats 113 = .ok (.iload 5, 2) := by decide +kernel
theorem dX11_heats_115 : decode cX11_heats 115 = .ok (.ireturn, 1) := by decide +kernel
theorem dX11_safe_0 : decode cX11_safe 0 = .ok (.aload_n 0, 1) := by decide +kernel
theorem dX11_safe_1 : decode cX11_safe 1 = .ok (.iload_n 1, 1) := by decide +kernel
theorem dX11_safe_2 : decode cX11_safe 2 = .ok (.invokevirtual 167, 3) := by decide +kernel
theorem dX11_safe_5 : decode cX11_safe 5 = .ok (.ifCond .eq 14, 3) := by decide +kernel
theorem dX11_safe_8 : decode cX11_safe 8 = .ok (.aload_n 0, 1) := by decide +kernel
theorem dX11_safe_9 : decode cX11_safe 9 = .ok (.getfield 46, 3) := by decide +kernel
theorem dX11_safe_12 : decode cX11_safe 12 = .ok (.iload_n 1, 1) := by decide +kernel
theorem dX11_safe_13 : decode cX11_safe 13 = .ok (.invokevirtual 197, 3) := by decide +kernel
theorem dX11_safe_16 : decode cX11_safe 16 = .ok (.ifCond .ne 5, 3) := by decide +kernel
theorem dX11_safe_19 : decode cX11_safe 19 = .ok (.iconst (-1), 1) := by decide +kernel
theorem dX11_safe_20 : decode cX11_safe 20 = .ok (.ireturn, 1) := by decide +kernel
theorem dX11_safe_21 : decode cX11_safe 21 = .ok (.bipush 20, 2) := by decide +kernel
theorem dX11_safe_23 : decode cX11_safe 23 = .ok (.istore_n 2, 1) := by decide +kernel
theorem dX11_safe_24 : decode cX11_safe 24 = .ok (.iload_n 2, 1) := by decide +kernel
theorem dX11_safe_25 : decode cX11_safe 25 = .ok (.ifCond .lt 27, 3) := by decide +kernel
theorem dX11_safe_28 : decode cX11_safe 28 = .ok (.aload_n 0, 1) := by decide +kernel
theorem dX11_safe_29 : decode cX11_safe 29 = .ok (.getfield 39, 3) := by decide +kernel
theorem dX11_safe_32 : decode cX11_safe 32 = .ok (.aload_n 0, 1) := by decide +kernel
theorem dX11_safe_33 : decode cX11_safe 33 = .ok (.getfield 46, 3) := by decide +kernel
theorem dX11_safe_36 : decode cX11_safe 36 = .ok (.iload_n 1, 1) := by decide +kernel
theorem dX11_safe_37 : decode cX11_safe 37 = .ok (.iload_n 2, 1) := by decide +kernel
theorem dX11_safe_38 : decode cX11_safe 38 = .ok (.invokevirtual 229, 3) := by decide +kernel
theorem dX11_safe_41 : decode cX11_safe 41 = .ok (.ifCond .eq 5, 3) := by decide +kernel
theorem dX11_safe_44 : decode cX11_safe 44 = .ok (.iload_n 2, 1) := by decide +kernel
theorem dX11_safe_45 : decode cX11_safe 45 = .ok (.ireturn, 1) := by decide +kernel
theorem dX11_safe_46 : decode cX11_safe 46 = .ok (.iinc 2 (-1), 3) := by decide +kernel
theorem dX11_safe_49 : decode cX11_safe 49 = .ok (.goto (-25), 3) := by decide +kernel
theorem dX11_safe_52 : decode cX11_safe 52 = .ok (.iconst (-1), 1) := by decide +kernel
theorem dX11_safe_53 : decode cX11_safe 53 = .ok (.ireturn, 1) := by decide +kernel
theorem dX11_best_0 : decode cX11_best 0 = .ok (.aload_n 0, 1) := by decide +kernel
theorem dX11_best_1 : decode cX11_best 1 = .ok (.iload_n 1, 1) := by decide +kernel
theorem dX11_best_2 : decode cX11_best 2 = .ok (.invokevirtual 167, 3) := by decide +kernel
theorem dX11_best_5 : decode cX11_best 5 = .ok (.ifCond .eq 22, 3) := by decide +kernel
theorem dX11_best_8 : decode cX11_best 8 = .ok (.iload_n 2, 1) := by decide +kernel
theorem dX11_best_9 : decode cX11_best 9 = .ok (.ifCond .lt 18, 3) := by decide +kernel
theorem dX11_best_12 : decode cX11_best 12 = .ok (.iload_n 2, 1) := by decide +kernel
theorem dX11_best_13 : decode cX11_best 13 = .ok (.iconst 2, 1) := by decide +kernel
theorem dX11_best_14 : decode cX11_best 14 = .ok (.aload_n 0, 1) := by decide +kernel
theorem dX11_best_15 : decode cX11_best 15 = .ok (.getfield 20, 3) := by decide +kernel
theorem dX11_best_18 : decode cX11_best 18 = .ok (.getfield 194, 3) := by decide +kernel
theorem dX11_best_21 : decode cX11_best 21 = .ok (.iload_n 1, 1) := by decide +kernel
theorem dX11_best_22 : decode cX11_best 22 = .ok (.iaload, 1) := by decide +kernel
theorem dX11_best_23 : decode cX11_best 23 = .ok (.iadd, 1) := by decide +kernel
theorem dX11_best_24 : decode cX11_best 24 = .ok (.if_icmp .lt 5, 3) := by decide +kernel
theorem dX11_best_27 : decode cX11_best 27 = .ok (.iconst (-1), 1) := by decide +kernel
theorem dX11_best_28 : decode cX11_best 28 = .ok (.ireturn, 1) := by decide +kernel
theorem dX11_best_29 : decode cX11_best 29 = .ok (.aload_n 0, 1) := by decide +kernel
theorem dX11_best_30 : decode cX11_best 30 = .ok (.getfield 65, 3) := by decide +kernel
theorem dX11_best_33 : decode cX11_best 33 = .ok (.aload_n 0, 1) := by decide +kernel
theorem dX11_best_34 : decode cX11_best 34 = .ok (.getfield 46, 3) := by decide +kernel
theorem dX11_best_37 : decode cX11_best 37 = .ok (.iload_n 1, 1) := by decide +kernel
theorem dX11_best_38 : decode cX11_best 38 = .ok (.invokevirtual 233, 3) := by decide +kernel
theorem dX11_best_41 : decode cX11_best 41 = .ok (.aload_n 0, 1) := by decide +kernel
theorem dX11_best_42 : decode cX11_best 42 = .ok (.getfield 65, 3) := by decide +kernel
theorem dX11_best_45 : decode cX11_best 45 = .ok (.getfield 237, 3) := by decide +kernel
theorem dX11_best_48 : decode cX11_best 48 = .ok (.iconst (-1), 1) := by decide +kernel
theorem dX11_best_49 : decode cX11_best 49 = .ok (.if_icmp .ne 5, 3) := by decide +kernel
theorem dX11_best_52 : decode cX11_best 52 = .ok (.iconst (-1), 1) := by decide +kernel
theorem dX11_best_53 : decode cX11_best 53 = .ok (.ireturn, 1) := by decide +kernel
theorem dX11_best_54 : decode cX11_best 54 = .ok (.iload_n 2, 1) := by decide +kernel
theorem dX11_best_55 : decode cX11_best 55 = .ok (.lookupswitch 41 #[(0, 25), (1, 33)], 25) := by decide +kernel
theorem dX11_best_80 : decode cX11_best 80 = .ok (.aload_n 0, 1) := by decide +kernel
theorem dX11_best_81 : decode cX11_best 81 = .ok (.getfield 65, 3) := by decide +kernel
theorem dX11_best_84 : decode cX11_best 84 = .ok (.getfield 237, 3) := by decide +kernel
theorem dX11_best_87 : decode cX11_best 87 = .ok (.ireturn, 1) := by decide +kernel
theorem dX11_best_88 : decode cX11_best 88 = .ok (.aload_n 0, 1) := by decide +kernel
theorem dX11_best_89 : decode cX11_best 89 = .ok (.getfield 65, 3) := by decide +kernel
theorem dX11_best_92 : decode cX11_best 92 = .ok (.getfield 240, 3) := by decide +kernel
theorem dX11_best_95 : decode cX11_best 95 = .ok (.ireturn, 1) := by decide +kernel
theorem dX11_best_96 : decode cX11_best 96 = .ok (.aload_n 0, 1) := by decide +kernel
theorem dX11_best_97 : decode cX11_best 97 = .ok (.getfield 65, 3) := by decide +kernel
theorem dX11_best_100 : decode cX11_best 100 = .ok (.getfield 243, 3) := by decide +kernel
theorem dX11_best_103 : decode cX11_best 103 = .ok (.iload_n 2, 1) := by decide +kernel
theorem dX11_best_104 : decode cX11_best 104 = .ok (.iconst 2, 1) := by decide +kernel
theorem dX11_best_105 : decode cX11_best 105 = .ok (.isub, 1) := by decide +kernel
theorem dX11_best_106 : decode cX11_best 106 = .ok (.iaload, 1) := by decide +kernel
theorem dX11_best_107 : decode cX11_best 107 = .ok (.ireturn, 1) := by decide +kernel
theorem dX11_brothers_0 : decode cX11_brothers 0 = .ok (.aload_n 0, 1) := by decide +kernel
theorem dX11_brothers_1 : decode cX11_brothers 1 = .ok (.iload_n 1, 1) := by decide +kernel
theorem dX11_brothers_2 : decode cX11_brothers 2 = .ok (.invokevirtual 158, 3) := by decide +kernel
theorem dX11_brothers_5 : decode cX11_brothers 5 = .ok (.ifCond .eq 14, 3) := by decide +kernel
theorem dX11_brothers_8 : decode cX11_brothers 8 = .ok (.aload_n 0, 1) := by decide +kernel
theorem dX11_brothers_9 : decode cX11_brothers 9 = .ok (.getfield 46, 3) := by decide +kernel
theorem dX11_brothers_12 : decode cX11_brothers 12 = .ok (.iload_n 1, 1) := by decide +kernel
theorem dX11_brothers_13 : decode cX11_brothers 13 = .ok (.invokevirtual 246, 3) := by decide +kernel
theorem dX11_brothers_16 : decode cX11_brothers 16 = .ok (.goto 4, 3) := by decide +kernel
theorem dX11_brothers_19 : decode cX11_brothers 19 = .ok (.iconst (-1), 1) := by decide +kernel
theorem dX11_brothers_20 : decode cX11_brothers 20 = .ok (.ireturn, 1) := by decide +kernel
theorem dX11_fired_0 : decode cX11_fired 0 = .ok (.aload_n 0, 1) := by decide +kernel
theorem dX11_fired_1 : decode cX11_fired 1 = .ok (.iload_n 1, 1) := by decide +kernel
theorem dX11_fired_2 : decode cX11_fired 2 = .ok (.invokevirtual 167, 3) := by decide +kernel
theorem dX11_fired_5 : decode cX11_fired 5 = .ok (.ifCond .eq 16, 3) := by decide +kernel
theorem dX11_fired_8 : decode cX11_fired 8 = .ok (.aload_n 0, 1) := by decide +kernel
theorem dX11_fired_9 : decode cX11_fired 9 = .ok (.getfield 46, 3) := by decide +kernel
theorem dX11_fired_12 : decode cX11_fired 12 = .ok (.getfield 200, 3) := by decide +kernel
theorem dX11_fired_15 : decode cX11_fired 15 = .ok (.iload_n 1, 1) := by decide +kernel
theorem dX11_fired_16 : decode cX11_fired 16 = .ok (.iaload, 1) := by decide +kernel
theorem dX11_fired_17 : decode cX11_fired 17 = .ok (.iconst (-1), 1) := by decide +kernel
theorem dX11_fired_18 : decode cX11_fired 18 = .ok (.if_icmp .ne 5, 3) := by decide +kernel
theorem dX11_fired_21 : decode cX11_fired 21 = .ok (.iconst (-1), 1) := by decide +kernel
theorem dX11_fired_22 : decode cX11_fired 22 = .ok (.ireturn, 1) := by decide +kernel
theorem dX11_fired_23 : decode cX11_fired 23 = .ok (.aload_n 0, 1) := by decide +kernel
theorem dX11_fired_24 : decode cX11_fired 24 = .ok (.getfield 50, 3) := by decide +kernel
theorem dX11_fired_27 : decode cX11_fired 27 = .ok (.aload_n 0, 1) := by decide +kernel
theorem dX11_fired_28 : decode cX11_fired 28 = .ok (.getfield 46, 3) := by decide +kernel
theorem dX11_fired_31 : decode cX11_fired 31 = .ok (.invokevirtual 249, 3) := by decide +kernel
theorem dX11_fired_34 : decode cX11_fired 34 = .ok (.iconst 0, 1) := by decide +kernel
theorem dX11_fired_35 : decode cX11_fired 35 = .ok (.istore_n 2, 1) := by decide +kernel
theorem dX11_fired_36 : decode cX11_fired 36 = .ok (.iload_n 2, 1) := by decide +kernel
theorem dX11_fired_37 : decode cX11_fired 37 = .ok (.bipush 40, 2) := by decide +kernel
theorem dX11_fired_39 : decode cX11_fired 39 = .ok (.if_icmp .ge 50, 3) := by decide +kernel
theorem dX11_fired_42 : decode cX11_fired 42 = .ok (.aload_n 0, 1) := by decide +kernel
theorem dX11_fired_43 : decode cX11_fired 43 = .ok (.getfield 50, 3) := by decide +kernel
theorem dX11_fired_46 : decode cX11_fired 46 = .ok (.getfield 137, 3) := by decide +kernel
theorem dX11_fired_49 : decode cX11_fired 49 = .ok (.sipush 999, 3) := by decide +kernel
theorem dX11_fired_52 : decode cX11_fired 52 = .ok (.if_icmp .ge 37, 3) := by decide +kernel
theorem dX11_fired_55 : decode cX11_fired 55 = .ok (.aload_n 0, 1) := by decide +kernel
theorem dX11_fired_56 : decode cX11_fired 56 = .ok (.getfield 39, 3) := by decide +kernel
theorem dX11_fired_59 : decode cX11_fired 59 = .ok (.aload_n 0, 1) := by decide +kernel
theorem dX11_fired_60 : decode cX11_fired 60 = .ok (.getfield 50, 3) := by decide +kernel
theorem dX11_fired_63 : decode cX11_fired 63 = .ok (.iconst 0, 1) := by decide +kernel
theorem dX11_fired_64 : decode cX11_fired 64 = .ok (.invokevirtual 253, 3) := by decide +kernel
theorem dX11_fired_67 : decode cX11_fired 67 = .ok (.pop, 1) := by decide +kernel
theorem dX11_fired_68 : decode cX11_fired 68 = .ok (.aload_n 0, 1) := by decide +kernel
theorem dX11_fired_69 : decode cX11_fired 69 = .ok (.getfield 50, 3) := by decide +kernel
theorem dX11_fired_72 : decode cX11_fired 72 = .ok (.getfield 200, 3) := by decide +kernel
theorem dX11_fired_75 : decode cX11_fired 75 = .ok (.iload_n 1, 1) := by decide +kernel
theorem dX11_fired_76 : decode cX11_fired 76 = .ok (.iaload, 1) := by decide +kernel
theorem dX11_fired_77 : decode cX11_fired 77 = .ok (.iconst (-1), 1) := by decide +kernel
theorem dX11_fired_78 : decode cX11_fired 78 = .ok (.if_icmp .ne 5, 3) := by decide +kernel
theorem dX11_fired_81 : decode cX11_fired 81 = .ok (.iload_n 2, 1) := by decide +kernel
theorem dX11_fired_82 : decode cX11_fired 82 = .ok (.ireturn, 1) := by decide +kernel
theorem dX11_fired_83 : decode cX11_fired 83 = .ok (.iinc 2 1, 3) := by decide +kernel
theorem dX11_fired_86 : decode cX11_fired 86 = .ok (.goto (-50), 3) := by decide +kernel
theorem dX11_fired_89 : decode cX11_fired 89 = .ok (.iconst (-1), 1) := by decide +kernel
theorem dX11_fired_90 : decode cX11_fired 90 = .ok (.ireturn, 1) := by decide +kernel
theorem dX11_fuel_0 : decode cX11_fuel 0 = .ok (.aload_n 0, 1) := by decide +kernel
theorem dX11_fuel_1 : decode cX11_fuel 1 = .ok (.iload_n 1, 1) := by decide +kernel
theorem dX11_fuel_2 : decode cX11_fuel 2 = .ok (.invokevirtual 256, 3) := by decide +kernel
theorem dX11_fuel_5 : decode cX11_fuel 5 = .ok (.ifCond .eq 13, 3) := by decide +kernel
theorem dX11_fuel_8 : decode cX11_fuel 8 = .ok (.aload_n 0, 1) := by decide +kernel
theorem dX11_fuel_9 : decode cX11_fuel 9 = .ok (.getfield 50, 3) := by decide +kernel
theorem dX11_fuel_12 : decode cX11_fuel 12 = .ok (.getfield 140, 3) := by decide +kernel
theorem dX11_fuel_15 : decode cX11_fuel 15 = .ok (.goto 4, 3) := by decide +kernel
theorem dX11_fuel_18 : decode cX11_fuel 18 = .ok (.iconst (-1), 1) := by decide +kernel
theorem dX11_fuel_19 : decode cX11_fuel 19 = .ok (.ireturn, 1) := by decide +kernel
theorem dX11_later_0 : decode cX11_later 0 = .ok (.aload_n 0, 1) := by decide +kernel
theorem dX11_later_1 : decode cX11_later 1 = .ok (.iload_n 1, 1) := by decide +kernel
theorem dX11_later_2 : decode cX11_later 2 = .ok (.invokevirtual 158, 3) := by decide +kernel
theorem dX11_later_5 : decode cX11_later 5 = .ok (.ifCond .eq 23, 3) := by decide +kernel
theorem dX11_later_8 : decode cX11_later 8 = .ok (.aload_n 0, 1) := by decide +kernel
theorem dX11_later_9 : decode cX11_later 9 = .ok (.iload_n 2, 1) := by decide +kernel
theorem dX11_later_10 : decode cX11_later 10 = .ok (.invokevirtual 256, 3) := by decide +kernel
theorem dX11_later_13 : decode cX11_later 13 = .ok (.ifCond .eq 15, 3) := by decide +kernel
theorem dX11_later_16 : decode cX11_later 16 = .ok (.aload_n 0, 1) := by decide +kernel
theorem dX11_later_17 : decode cX11_later 17 = .ok (.getfield 50, 3) := by decide +kernel
theorem dX11_later_20 : decode cX11_later 20 = .ok (.getfield 188, 3) := by decide +kernel
theorem dX11_later_23 : decode cX11_later 23 = .ok (.iload_n 1, 1) := by decide +kernel
theorem dX11_later_24 : decode cX11_later 24 = .ok (.iaload, 1) := by decide +kernel
theorem dX11_later_25 : decode cX11_later 25 = .ok (.goto 4, 3) := by decide +kernel
theorem dX11_later_28 : decode cX11_later 28 = .ok (.iconst (-1), 1) := by decide +kernel
theorem dX11_later_29 : decode cX11_later 29 = .ok (.ireturn, 1) := by decide +kernel
theorem dX11_odds_0 : decode cX11_odds 0 = .ok (.aload_n 0, 1) := by decide +kernel
theorem dX11_odds_1 : decode cX11_odds 1 = .ok (.iload_n 1, 1) := by decide +kernel
theorem dX11_odds_2 : decode cX11_odds 2 = .ok (.invokevirtual 158, 3) := by decide +kernel
theorem dX11_odds_5 : decode cX11_odds 5 = .ok (.ifCond .eq 16, 3) := by decide +kernel
theorem dX11_odds_8 : decode cX11_odds 8 = .ok (.aload_n 0, 1) := by decide +kernel
theorem dX11_odds_9 : decode cX11_odds 9 = .ok (.getfield 46, 3) := by decide +kernel
theorem dX11_odds_12 : decode cX11_odds 12 = .ok (.getfield 137, 3) := by decide +kernel
theorem dX11_odds_15 : decode cX11_odds 15 = .ok (.sipush 999, 3) := by decide +kernel
theorem dX11_odds_18 : decode cX11_odds 18 = .ok (.if_icmp .lt 5, 3) := by decide +kernel
theorem dX11_odds_21 : decode cX11_odds 21 = .ok (.iconst (-1), 1) := by decide +kernel
theorem dX11_odds_22 : decode cX11_odds 22 = .ok (.ireturn, 1) := by decide +kernel
theorem dX11_odds_23 : decode cX11_odds 23 = .ok (.aload_n 0, 1) := by decide +kernel
theorem dX11_odds_24 : decode cX11_odds 24 = .ok (.getfield 46, 3) := by decide +kernel
theorem dX11_odds_27 : decode cX11_odds 27 = .ok (.getfield 179, 3) := by decide +kernel
theorem dX11_odds_30 : decode cX11_odds 30 = .ok (.iload_n 1, 1) := by decide +kernel
theorem dX11_odds_31 : decode cX11_odds 31 = .ok (.iaload, 1) := by decide +kernel
theorem dX11_odds_32 : decode cX11_odds 32 = .ok (.istore_n 2, 1) := by decide +kernel
theorem dX11_odds_33 : decode cX11_odds 33 = .ok (.aload_n 0, 1) := by decide +kernel
theorem dX11_odds_34 : decode cX11_odds 34 = .ok (.iload_n 2, 1) := by decide +kernel
theorem dX11_odds_35 : decode cX11_odds 35 = .ok (.invokevirtual 167, 3) := by decide +kernel
theorem dX11_odds_38 : decode cX11_odds 38 = .ok (.ifCond .eq 16, 3) := by decide +kernel
theorem dX11_odds_41 : decode cX11_odds 41 = .ok (.aload_n 0, 1) := by decide +kernel
theorem dX11_odds_42 : decode cX11_odds 42 = .ok (.getfield 46, 3) := by decide +kernel
theorem dX11_odds_45 : decode cX11_odds 45 = .ok (.getfield 200, 3) := by decide +kernel
theorem dX11_odds_48 : decode cX11_odds 48 = .ok (.iload_n 2, 1) := by decide +kernel
theorem dX11_odds_49 : decode cX11_odds 49 = .ok (.iaload, 1) := by decide +kernel
theorem dX11_odds_50 : decode cX11_odds 50 = .ok (.iconst (-1), 1) := by decide +kernel
theorem dX11_odds_51 : decode cX11_odds 51 = .ok (.if_icmp .ne 5, 3) := by decide +kernel
theorem dX11_odds_54 : decode cX11_odds 54 = .ok (.iconst (-1), 1) := by decide +kernel
theorem dX11_odds_55 : decode cX11_odds 55 = .ok (.ireturn, 1) := by decide +kernel
theorem dX11_odds_56 : decode cX11_odds 56 = .ok (.aload_n 0, 1) := by decide +kernel
theorem dX11_odds_57 : decode cX11_odds 57 = .ok (.iconst 1, 1) := by decide +kernel
theorem dX11_odds_58 : decode cX11_odds 58 = .ok (.invokevirtual 256, 3) := by decide +kernel
theorem dX11_odds_61 : decode cX11_odds 61 = .ok (.pop, 1) := by decide +kernel
theorem dX11_odds_62 : decode cX11_odds 62 = .ok (.aload_n 0, 1) := by decide +kernel
theorem dX11_odds_63 : decode cX11_odds 63 = .ok (.getfield 50, 3) := by decide +kernel
theorem dX11_odds_66 : decode cX11_odds 66 = .ok (.iload_n 1, 1) := by decide +kernel
theorem dX11_odds_67 : decode cX11_odds 67 = .ok (.invokevirtual 185, 3) := by decide +kernel
theorem dX11_odds_70 : decode cX11_odds 70 = .ok (.ifCond .eq 20, 3) := by decide +kernel
theorem dX11_odds_73 : decode cX11_odds 73 = .ok (.aload_n 0, 1) := by decide +kernel
theorem dX11_odds_74 : decode cX11_odds 74 = .ok (.iload_n 1, 1) := by decide +kernel
theorem dX11_odds_75 : decode cX11_odds 75 = .ok (.aload_n 0, 1) := by decide +kernel
theorem dX11_odds_76 : decode cX11_odds 76 = .ok (.getfield 46, 3) := by decide +kernel
theorem dX11_odds_79 : decode cX11_odds 79 = .ok (.getfield 200, 3) := by decide +kernel
theorem dX11_odds_82 : decode cX11_odds 82 = .ok (.iload_n 2, 1) := by decide +kernel
theorem dX11_odds_83 : decode cX11_odds 83 = .ok (.iaload, 1) := by decide +kernel
theorem dX11_odds_84 : decode cX11_odds 84 = .ok (.invokevirtual 259, 3) := by decide +kernel
theorem dX11_odds_87 : decode cX11_odds 87 = .ok (.goto 4, 3) := by decide +kernel
theorem dX11_odds_90 : decode cX11_odds 90 = .ok (.iconst 0, 1) := by decide +kernel
theorem dX11_odds_91 : decode cX11_odds 91 = .ok (.ireturn, 1) := by decide +kernel
theorem dX11_see_0 : decode cX11_see 0 = .ok (.aload_n 0, 1) := by decide +kernel
theorem dX11_see_1 : decode cX11_see 1 = .ok (.getfield 13, 3) := by decide +kernel
theorem dX11_see_4 : decode cX11_see 4 = .ok (.istore_n 1, 1) := by decide +kernel
theorem dX11_see_5 : decode cX11_see 5 = .ok (.aload_n 0, 1) := by decide +kernel
theorem dX11_see_6 : decode cX11_see 6 = .ok (.iconst 0, 1) := by decide +kernel
theorem dX11_see_7 : decode cX11_see 7 = .ok (.putfield 13, 3) := by decide +kernel
theorem dX11_see_10 : decode cX11_see 10 = .ok (.aload_n 0, 1) := by decide +kernel
theorem dX11_see_11 : decode cX11_see 11 = .ok (.getfield 72, 3) := by decide +kernel
theorem dX11_see_14 : decode cX11_see 14 = .ok (.aload_n 0, 1) := by decide +kernel
theorem dX11_see_15 : decode cX11_see 15 = .ok (.getfield 9, 3) := by decide +kernel
theorem dX11_see_18 : decode cX11_see 18 = .ok (.iload_n 1, 1) := by decide +kernel
theorem dX11_see_19 : decode cX11_see 19 = .ok (.aload_n 0, 1) := by decide +kernel
theorem dX11_see_20 : decode cX11_see 20 = .ok (.getfield 20, 3) := by decide +kernel
theorem dX11_see_23 : decode cX11_see 23 = .ok (.getfield 131, 3) := by decide +kernel
theorem dX11_see_26 : decode cX11_see 26 = .ok (.invokevirtual 262, 3) := by decide +kernel
theorem dX11_see_29 : decode cX11_see 29 = .ok (.ifCond .eq 13, 3) := by decide +kernel
theorem dX11_see_32 : decode cX11_see 32 = .ok (.aload_n 0, 1) := by decide +kernel
theorem dX11_see_33 : decode cX11_see 33 = .ok (.getfield 72, 3) := by decide +kernel
theorem dX11_see_36 : decode cX11_see 36 = .ok (.getfield 121, 3) := by decide +kernel
theorem dX11_see_39 : decode cX11_see 39 = .ok (.goto 8, 3) := by decide +kernel
theorem dX11_see_42 : decode cX11_see 42 = .ok (.aload_n 0, 1) := by decide +kernel
theorem dX11_see_43 : decode cX11_see 43 = .ok (.iconst 5, 1) := by decide +kernel
theorem dX11_see_44 : decode cX11_see 44 = .ok (.invokevirtual 99, 3) := by decide +kernel
theorem dX11_see_47 : decode cX11_see 47 = .ok (.ireturn, 1) := by decide +kernel
theorem dX11_seen_0 : decode cX11_seen 0 = .ok (.aload_n 0, 1) := by decide +kernel
theorem dX11_seen_1 : decode cX11_seen 1 = .ok (.getfield 72, 3) := by decide +kernel
theorem dX11_seen_4 : decode cX11_seen 4 = .ok (.aload_n 0, 1) := by decide +kernel
theorem dX11_seen_5 : decode cX11_seen 5 = .ok (.getfield 39, 3) := by decide +kernel
theorem dX11_seen_8 : decode cX11_seen 8 = .ok (.aload_n 0, 1) := by decide +kernel
theorem dX11_seen_9 : decode cX11_seen 9 = .ok (.getfield 46, 3) := by decide +kernel
theorem dX11_seen_12 : decode cX11_seen 12 = .ok (.getfield 137, 3) := by decide +kernel
theorem dX11_seen_15 : decode cX11_seen 15 = .ok (.invokevirtual 266, 3) := by decide +kernel
theorem dX11_seen_18 : decode cX11_seen 18 = .ok (.ireturn, 1) := by decide +kernel
theorem dX11_tells_0 : decode cX11_tells 0 = .ok (.iload_n 1, 1) := by decide +kernel
theorem dX11_tells_1 : decode cX11_tells 1 = .ok (.ifCond .lt 29, 3) := by decide +kernel
theorem dX11_tells_4 : decode cX11_tells 4 = .ok (.iload_n 1, 1) := by decide +kernel
theorem dX11_tells_5 : decode cX11_tells 5 = .ok (.iconst 2, 1) := by decide +kernel
theorem dX11_tells_6 : decode cX11_tells 6 = .ok (.if_icmp .gt 24, 3) := by decide +kernel
theorem dX11_tells_9 : decode cX11_tells 9 = .ok (.aload_n 0, 1) := by decide +kernel
theorem dX11_tells_10 : decode cX11_tells 10 = .ok (.getfield 72, 3) := by decide +kernel
theorem dX11_tells_13 : decode cX11_tells 13 = .ok (.aload_n 0, 1) := by decide +kernel
theorem dX11_tells_14 : decode cX11_tells 14 = .ok (.getfield 39, 3) := by decide +kernel
theorem dX11_tells_17 : decode cX11_tells 17 = .ok (.aload_n 0, 1) := by decide +kernel
theorem dX11_tells_18 : decode cX11_tells 18 = .ok (.getfield 46, 3) := by decide +kernel
theorem dX11_tells_21 : decode cX11_tells 21 = .ok (.getfield 137, 3) := by decide +kernel
theorem dX11_tells_24 : decode cX11_tells 24 = .ok (.invokevirtual 270, 3) := by decide +kernel
theorem dX11_tells_27 : decode cX11_tells 27 = .ok (.ifCond .ne 5, 3) := by decide +kernel
theorem dX11_tells_30 : decode cX11_tells 30 = .ok (.iconst (-1), 1) := by decide +kernel
theorem dX11_tells_31 : decode cX11_tells 31 = .ok (.ireturn, 1) := by decide +kernel
theorem dX11_tells_32 : decode cX11_tells 32 = .ok (.iload_n 1, 1) := by decide +kernel
theorem dX11_tells_33 : decode cX11_tells 33 = .ok (.lookupswitch 43 #[(0, 27), (1, 35)], 27) := by decide +kernel
theorem dX11_tells_60 : decode cX11_tells 60 = .ok (.aload_n 0, 1) := by decide +kernel
theorem dX11_tells_61 : decode cX11_tells 61 = .ok (.getfield 72, 3) := by decide +kernel
theorem dX11_tells_64 : decode cX11_tells 64 = .ok (.getfield 274, 3) := by decide +kernel
theorem dX11_tells_67 : decode cX11_tells 67 = .ok (.ireturn, 1) := by decide +kernel
theorem dX11_tells_68 : decode cX11_tells 68 = .ok (.aload_n 0, 1) := by decide +kernel
theorem dX11_tells_69 : decode cX11_tells 69 = .ok (.getfield 72, 3) := by decide +kernel
theorem dX11_tells_72 : decode cX11_tells 72 = .ok (.getfield 277, 3) := by decide +kernel
theorem dX11_tells_75 : decode cX11_tells 75 = .ok (.ireturn, 1) := by decide +kernel
theorem dX11_tells_76 : decode cX11_tells 76 = .ok (.aload_n 0, 1) := by decide +kernel
theorem dX11_tells_77 : decode cX11_tells 77 = .ok (.getfield 72, 3) := by decide +kernel
theorem dX11_tells_80 : decode cX11_tells 80 = .ok (.getfield 280, 3) := by decide +kernel
theorem dX11_tells_83 : decode cX11_tells 83 = .ok (.ireturn, 1) := by decide +kernel
theorem dX11_weeks_0 : decode cX11_weeks 0 = .ok (.aload_n 0, 1) := by decide +kernel
theorem dX11_weeks_1 : decode cX11_weeks 1 = .ok (.iload_n 1, 1) := by decide +kernel
theorem dX11_weeks_2 : decode cX11_weeks 2 = .ok (.invokevirtual 283, 3) := by decide +kernel
theorem dX11_weeks_5 : decode cX11_weeks 5 = .ok (.ifCond .ne 9, 3) := by decide +kernel
theorem dX11_weeks_8 : decode cX11_weeks 8 = .ok (.aload_n 0, 1) := by decide +kernel
theorem dX11_weeks_9 : decode cX11_weeks 9 = .ok (.iconst 2, 1) := by decide +kernel
theorem dX11_weeks_10 : decode cX11_weeks 10 = .ok (.invokevirtual 99, 3) := by decide +kernel
theorem dX11_weeks_13 : decode cX11_weeks 13 = .ok (.ireturn, 1) := by decide +kernel
theorem dX11_weeks_14 : decode cX11_weeks 14 = .ok (.aload_n 0, 1) := by decide +kernel
theorem dX11_weeks_15 : decode cX11_weeks 15 = .ok (.invokevirtual 286, 3) := by decide +kernel
theorem dX11_weeks_18 : decode cX11_weeks 18 = .ok (.iconst 0, 1) := by decide +kernel
theorem dX11_weeks_19 : decode cX11_weeks 19 = .ok (.istore_n 2, 1) := by decide +kernel
theorem dX11_weeks_20 : decode cX11_weeks 20 = .ok (.iconst 0, 1) := by decide +kernel
theorem dX11_weeks_21 : decode cX11_weeks 21 = .ok (.istore_n 3, 1) := by decide +kernel
theorem dX11_weeks_22 : decode cX11_weeks 22 = .ok (.iload_n 3, 1) := by decide +kernel
theorem dX11_weeks_23 : decode cX11_weeks 23 = .ok (.iload_n 1, 1) := by decide +kernel
theorem dX11_weeks_24 : decode cX11_weeks 24 = .ok (.if_icmp .ge 24, 3) := by decide +kernel
theorem dX11_weeks_27 : decode cX11_weeks 27 = .ok (.iload_n 2, 1) := by decide +kernel
theorem dX11_weeks_28 : decode cX11_weeks 28 = .ok (.aload_n 0, 1) := by decide +kernel
theorem dX11_weeks_29 : decode cX11_weeks 29 = .ok (.getfield 39, 3) := by decide +kernel
theorem dX11_weeks_32 : decode cX11_weeks 32 = .ok (.aload_n 0, 1) := by decide +kernel
theorem dX11_weeks_33 : decode cX11_weeks 33 = .ok (.getfield 46, 3) := by decide +kernel
theorem dX11_weeks_36 : decode cX11_weeks 36 = .ok (.iconst 0, 1) := by decide +kernel
theorem dX11_weeks_37 : decode cX11_weeks 37 = .ok (.invokevirtual 253, 3) := by decide +kernel
theorem dX11_weeks_40 : decode cX11_weeks 40 = .ok (.iadd, 1) := by decide +kernel
theorem dX11_weeks_41 : decode cX11_weeks 41 = .ok (.istore_n 2, 1) := by decide +kernel
theorem dX11_weeks_42 : decode cX11_weeks 42 = .ok (.iinc 3 1, 3) := by decide +kernel
theorem dX11_weeks_45 : decode cX11_weeks 45 = .ok (.goto (-23), 3) := by decide +kernel
theorem dX11_weeks_48 : decode cX11_weeks 48 = .ok (.iload_n 2, 1) := by decide +kernel
theorem dX11_weeks_49 : decode cX11_weeks 49 = .ok (.ireturn, 1) := by decide +kernel
theorem dX11_chance_0 : decode cX11_chance 0 = .ok (.aload_n 0, 1) := by decide +kernel
theorem dX11_chance_1 : decode cX11_chance 1 = .ok (.iload_n 1, 1) := by decide +kernel
theorem dX11_chance_2 : decode cX11_chance 2 = .ok (.invokevirtual 283, 3) := by decide +kernel
theorem dX11_chance_5 : decode cX11_chance 5 = .ok (.ifCond .ne 9, 3) := by decide +kernel
theorem dX11_chance_8 : decode cX11_chance 8 = .ok (.aload_n 0, 1) := by decide +kernel
theorem dX11_chance_9 : decode cX11_chance 9 = .ok (.iconst 2, 1) := by decide +kernel
theorem dX11_chance_10 : decode cX11_chance 10 = .ok (.invokevirtual 99, 3) := by decide +kernel
theorem dX11_chance_13 : decode cX11_chance 13 = .ok (.ireturn, 1) := by decide +kernel
theorem dX11_chance_14 : decode cX11_chance 14 = .ok (.aload_n 0, 1) := by decide +kernel
theorem dX11_chance_15 : decode cX11_chance 15 = .ok (.invokevirtual 286, 3) := by decide +kernel
theorem dX11_chance_18 : decode cX11_chance 18 = .ok (.iconst 0, 1) := by decide +kernel
theorem dX11_chance_19 : decode cX11_chance 19 = .ok (.istore_n 2, 1) := by decide +kernel
theorem dX11_chance_20 : decode cX11_chance 20 = .ok (.iconst 0, 1) := by decide +kernel
theorem dX11_chance_21 : decode cX11_chance 21 = .ok (.istore_n 3, 1) := by decide +kernel
theorem dX11_chance_22 : decode cX11_chance 22 = .ok (.iload_n 3, 1) := by decide +kernel
theorem dX11_chance_23 : decode cX11_chance 23 = .ok (.iload_n 1, 1) := by decide +kernel
theorem dX11_chance_24 : decode cX11_chance 24 = .ok (.if_icmp .ge 60, 3) := by decide +kernel
theorem dX11_chance_27 : decode cX11_chance 27 = .ok (.aload_n 0, 1) := by decide +kernel
theorem dX11_chance_28 : decode cX11_chance 28 = .ok (.bipush 100, 2) := by decide +kernel
theorem dX11_chance_30 : decode cX11_chance 30 = .ok (.invokevirtual 289, 3) := by decide +kernel
theorem dX11_chance_33 : decode cX11_chance 33 = .ok (.aload_n 0, 1) := by decide +kernel
theorem dX11_chance_34 : decode cX11_chance 34 = .ok (.getfield 20, 3) := by decide +kernel
theorem dX11_chance_37 : decode cX11_chance 37 = .ok (.getfield 292, 3) := by decide +kernel
theorem dX11_chance_40 : decode cX11_chance 40 = .ok (.if_icmp .ge 13, 3) := by decide +kernel
theorem dX11_chance_43 : decode cX11_chance 43 = .ok (.iconst 1, 1) := by decide +kernel
theorem dX11_chance_44 : decode cX11_chance 44 = .ok (.aload_n 0, 1) := by decide +kernel
theorem dX11_chance_45 : decode cX11_chance 45 = .ok (.iconst 3, 1) := by decide +kernel
theorem dX11_chance_46 : decode cX11_chance 46 = .ok (.invokevirtual 289, 3) := by decide +kernel
theorem dX11_chance_49 : decode cX11_chance 49 = .ok (.iadd, 1) := by decide +kernel
theorem dX11_chance_50 : decode cX11_chance 50 = .ok (.goto 4, 3) := by decide +kernel
theorem dX11_chance_53 : decode cX11_chance 53 = .ok (.iconst 0, 1) := by decide +kernel
theorem dX11_chance_54 : decode cX11_chance 54 = .ok (.istore 4, 2) := by decide +kernel
theorem dX11_chance_56 : decode cX11_chance 56 = .ok (.iload 4, 2) := by decide +kernel
theorem dX11_chance_58 : decode cX11_chance 58 = .ok (.ifCond .le 6, 3) := by decide +kernel
theorem dX11_chance_61 : decode cX11_chance 61 = .ok (.iinc 2 1, 3) := by decide +kernel
theorem dX11_chance_64 : decode cX11_chance 64 = .ok (.aload_n 0, 1) := by decide +kernel
theorem dX11_chance_65 : decode cX11_chance 65 = .ok (.getfield 39, 3) := by decide +kernel
theorem dX11_chance_68 : decode cX11_chance 68 = .ok (.aload_n 0, 1) := by decide +kernel
theorem dX11_chance_69 : decode cX11_chance 69 = .ok (.getfield 46, 3) := by decide +kernel
theorem dX11_chance_72 : decode cX11_chance 72 = .ok (.iload 4, 2) := by decide +kernel
theorem dX11_chance_74 : decode cX11_chance 74 = .ok (.invokevirtual 253, 3) := by decide +kernel
theorem dX11_chance_77 : decode cX11_chance 77 = .ok (.pop, 1) := by decide +kernel
theorem dX11_chance_78 : decode cX11_chance 78 = .ok (.iinc 3 1, 3) := by decide +kernel
theorem dX11_chance_81 : decode cX11_chance 81 = .ok (.goto (-59), 3) := by decide +kernel
theorem dX11_chance_84 : decode cX11_chance 84 = .ok (.iload_n 2, 1) := by decide +kernel
theorem dX11_chance_85 : decode cX11_chance 85 = .ok (.ireturn, 1) := by decide +kernel
theorem dX11_set_0 : decode cX11_set 0 = .ok (.aload_n 0, 1) := by decide +kernel
theorem dX11_set_1 : decode cX11_set 1 = .ok (.iload_n 1, 1) := by decide +kernel
theorem dX11_set_2 : decode cX11_set 2 = .ok (.invokevirtual 158, 3) := by decide +kernel
theorem dX11_set_5 : decode cX11_set 5 = .ok (.ifCond .eq 40, 3) := by decide +kernel
theorem dX11_set_8 : decode cX11_set 8 = .ok (.aload_n 0, 1) := by decide +kernel
theorem dX11_set_9 : decode cX11_set 9 = .ok (.iload_n 2, 1) := by decide +kernel
theorem dX11_set_10 : decode cX11_set 10 = .ok (.iload_n 3, 1) := by decide +kernel
theorem dX11_set_11 : decode cX11_set 11 = .ok (.invokevirtual 207, 3) := by decide +kernel
theorem dX11_set_14 : decode cX11_set 14 = .ok (.ifCond .eq 31, 3) := by decide +kernel
theorem dX11_set_17 : decode cX11_set 17 = .ok (.aload_n 0, 1) := by decide +kernel
theorem dX11_set_18 : decode cX11_set 18 = .ok (.getfield 46, 3) := by decide +kernel
theorem dX11_set_21 : decode cX11_set 21 = .ok (.iload_n 1, 1) := by decide +kernel
theorem dX11_set_22 : decode cX11_set 22 = .ok (.invokevirtual 185, 3) := by decide +kernel
theorem dX11_set_25 : decode cX11_set 25 = .ok (.ifCond .ne 20, 3) := by decide +kernel
theorem dX11_set_28 : decode cX11_set 28 = .ok (.aload_n 0, 1) := by decide +kernel
theorem dX11_set_29 : decode cX11_set 29 = .ok (.getfield 46, 3) := by decide +kernel
theorem dX11_set_32 : decode cX11_set 32 = .ok (.iload_n 2, 1) := by decide +kernel
theorem dX11_set_33 : decode cX11_set 33 = .ok (.iload_n 3, 1) := by decide +kernel
theorem dX11_set_34 : decode cX11_set 34 = .ok (.invokevirtual 211, 3) := by decide +kernel
theorem dX11_set_37 : decode cX11_set 37 = .ok (.iconst (-1), 1) := by decide +kernel
theorem dX11_set_38 : decode cX11_set 38 = .ok (.if_icmp .ne 7, 3) := by decide +kernel
theorem dX11_set_41 : decode cX11_set 41 = .ok (.iconst 1, 1) := by decide +kernel
theorem dX11_set_42 : decode cX11_set 42 = .ok (.goto 4, 3) := by decide +kernel
theorem dX11_set_45 : decode cX11_set 45 = .ok (.iconst 0, 1) := by decide +kernel
theorem dX11_set_46 : decode cX11_set 46 = .ok (.istore 4, 2) := by decide +kernel
theorem dX11_set_48 : decode cX11_set 48 = .ok (.iload 4, 2) := by decide +kernel
theorem dX11_set_50 : decode cX11_set 50 = .ok (.ifCond .ne 9, 3) := by decide +kernel
theorem dX11_set_53 : decode cX11_set 53 = .ok (.aload_n 0, 1) := by decide +kernel
theorem dX11_set_54 : decode cX11_set 54 = .ok (.iconst 3, 1) := by decide +kernel
theorem dX11_set_55 : decode cX11_set 55 = .ok (.invokevirtual 107, 3) := by decide +kernel
theorem dX11_set_58 : decode cX11_set 58 = .ok (.ireturn, 1) := by decide +kernel
theorem dX11_set_59 : decode cX11_set 59 = .ok (.aload_n 0, 1) := by decide +kernel
theorem dX11_set_60 : decode cX11_set 60 = .ok (.invokevirtual 286, 3) := by decide +kernel
theorem dX11_set_63 : decode cX11_set 63 = .ok (.aload_n 0, 1) := by decide +kernel
theorem dX11_set_64 : decode cX11_set 64 = .ok (.getfield 46, 3) := by decide +kernel
theorem dX11_set_67 : decode cX11_set 67 = .ok (.getfield 179, 3) := by decide +kernel
theorem dX11_set_70 : decode cX11_set 70 = .ok (.iload_n 1, 1) := by decide +kernel
theorem dX11_set_71 : decode cX11_set 71 = .ok (.iload_n 2, 1) := by decide +kernel
theorem dX11_set_72 : decode cX11_set 72 = .ok (.iastore, 1) := by decide +kernel
theorem dX11_set_73 : decode cX11_set 73 = .ok (.aload_n 0, 1) := by decide +kernel
theorem dX11_set_74 : decode cX11_set 74 = .ok (.getfield 46, 3) := by decide +kernel
theorem dX11_set_77 : decode cX11_set 77 = .ok (.getfield 182, 3) := by decide +kernel
theorem dX11_set_80 : decode cX11_set 80 = .ok (.iload_n 1, 1) := by decide +kernel
theorem dX11_set_81 : decode cX11_set 81 = .ok (.iload_n 3, 1) := by decide +kernel
theorem dX11_set_82 : decode cX11_set 82 = .ok (.iastore, 1) := by decide +kernel
theorem dX11_set_83 : decode cX11_set 83 = .ok (.iconst 1, 1) := by decide +kernel
theorem dX11_set_84 : decode cX11_set 84 = .ok (.ireturn, 1) := by decide +kernel
theorem dX11_take_0 : decode cX11_take 0 = .ok (.aload_n 0, 1) := by decide +kernel
theorem dX11_take_1 : decode cX11_take 1 = .ok (.iload_n 1, 1) := by decide +kernel
theorem dX11_take_2 : decode cX11_take 2 = .ok (.invokevirtual 158, 3) := by decide +kernel
theorem dX11_take_5 : decode cX11_take 5 = .ok (.ifCond .eq 16, 3) := by decide +kernel
theorem dX11_take_8 : decode cX11_take 8 = .ok (.aload_n 0, 1) := by decide +kernel
theorem dX11_take_9 : decode cX11_take 9 = .ok (.getfield 46, 3) := by decide +kernel
theorem dX11_take_12 : decode cX11_take 12 = .ok (.getfield 179, 3) := by decide +kernel
theorem dX11_take_15 : decode cX11_take 15 = .ok (.iload_n 1, 1) := by decide +kernel
theorem dX11_take_16 : decode cX11_take 16 = .ok (.iaload, 1) := by decide +kernel
theorem dX11_take_17 : decode cX11_take 17 = .ok (.iconst (-1), 1) := by decide +kernel
theorem dX11_take_18 : decode cX11_take 18 = .ok (.if_icmp .ne 9, 3) := by decide +kernel
theorem dX11_take_21 : decode cX11_take 21 = .ok (.aload_n 0, 1) := by decide +kernel
theorem dX11_take_22 : decode cX11_take 22 = .ok (.iconst 3, 1) := by decide +kernel
theorem dX11_take_23 : decode cX11_take 23 = .ok (.invokevirtual 107, 3) := by decide +kernel
theorem dX11_take_26 : decode cX11_take 26 = .ok (.ireturn, 1) := by decide +kernel
theorem dX11_take_27 : decode cX11_take 27 = .ok (.aload_n 0, 1) := by decide +kernel
theorem dX11_take_28 : decode cX11_take 28 = .ok (.invokevirtual 286, 3) := by decide +kernel
theorem dX11_take_31 : decode cX11_take 31 = .ok (.aload_n 0, 1) := by decide +kernel
theorem dX11_take_32 : decode cX11_take 32 = .ok (.getfield 46, 3) := by decide +kernel
theorem dX11_take_35 : decode cX11_take 35 = .ok (.iload_n 1, 1) := by decide +kernel
theorem dX11_take_36 : decode cX11_take 36 = .ok (.invokevirtual 295, 3) := by decide +kernel
theorem dX11_take_39 : decode cX11_take 39 = .ok (.iconst 1, 1) := by decide +kernel
theorem dX11_take_40 : decode cX11_take 40 = .ok (.ireturn, 1) := by decide +kernel
theorem dX11_light_0 : decode cX11_light 0 = .ok (.aload_n 0, 1) := by decide +kernel
theorem dX11_light_1 : decode cX11_light 1 = .ok (.iload_n 1, 1) := by decide +kernel
theorem dX11_light_2 : decode cX11_light 2 = .ok (.invokevirtual 167, 3) := by decide +kernel
theorem dX11_light_5 : decode cX11_light 5 = .ok (.ifCond .eq 32, 3) := by decide +kernel
theorem dX11_light_8 : decode cX11_light 8 = .ok (.iload_n 2, 1) := by decide +kernel
theorem dX11_light_9 : decode cX11_light 9 = .ok (.invokestatic 215, 3) := by decide +kernel
theorem dX11_light_12 : decode cX11_light 12 = .ok (.ifCond .ne 8, 3) := by decide +kernel
theorem dX11_light_15 : decode cX11_light 15 = .ok (.iload_n 2, 1) := by decide +kernel
theorem dX11_light_16 : decode cX11_light 16 = .ok (.iconst (-1), 1) := by decide +kernel
theorem dX11_light_17 : decode cX11_light 17 = .ok (.if_icmp .ne 20, 3) := by decide +kernel
theorem dX11_light_20 : decode cX11_light 20 = .ok (.aload_n 0, 1) := by decide +kernel
theorem dX11_light_21 : decode cX11_light 21 = .ok (.getfield 46, 3) := by decide +kernel
theorem dX11_light_24 : decode cX11_light 24 = .ok (.getfield 200, 3) := by decide +kernel
theorem dX11_light_27 : decode cX11_light 27 = .ok (.iload_n 1, 1) := by decide +kernel
theorem dX11_light_28 : decode cX11_light 28 = .ok (.iaload, 1) := by decide +kernel
theorem dX11_light_29 : decode cX11_light 29 = .ok (.iload_n 2, 1) := by decide +kernel
theorem dX11_light_30 : decode cX11_light 30 = .ok (.if_icmp .eq 7, 3) := by decide +kernel
theorem dX11_light_33 : decode cX11_light 33 = .ok (.iconst 1, 1) := by decide +kernel
theorem dX11_light_34 : decode cX11_light 34 = .ok (.goto 4, 3) := by decide +kernel
theorem dX11_light_37 : decode cX11_light 37 = .ok (.iconst 0, 1) := by decide +kernel
theorem dX11_light_38 : decode cX11_light 38 = .ok (.istore_n 3, 1) := by decide +kernel
theorem dX11_light_39 : decode cX11_light 39 = .ok (.iload_n 3, 1) := by decide +kernel
theorem dX11_light_40 : decode cX11_light 40 = .ok (.ifCond .ne 9, 3) := by decide +kernel
theorem dX11_light_43 : decode cX11_light 43 = .ok (.aload_n 0, 1) := by decide +kernel
theorem dX11_light_44 : decode cX11_light 44 = .ok (.iconst 3, 1) := by decide +kernel
theorem dX11_light_45 : decode cX11_light 45 = .ok (.invokevirtual 107, 3) := by decide +kernel
theorem dX11_light_48 : decode cX11_light 48 = .ok (.ireturn, 1) := by decide +kernel
theorem dX11_light_49 : decode cX11_light 49 = .ok (.aload_n 0, 1) := by decide +kernel
theorem dX11_light_50 : decode cX11_light 50 = .ok (.invokevirtual 286, 3) := by decide +kernel
theorem dX11_light_53 : decode cX11_light 53 = .ok (.aload_n 0, 1) := by decide +kernel
theorem dX11_light_54 : decode cX11_light 54 = .ok (.getfield 46, 3) := by decide +kernel
theorem dX11_light_57 : decode cX11_light 57 = .ok (.getfield 200, 3) := by decide +kernel
theorem dX11_light_60 : decode cX11_light 60 = .ok (.iload_n 1, 1) := by decide +kernel
theorem dX11_light_61 : decode cX11_light 61 = .ok (.iload_n 2, 1) := by decide +kernel
theorem dX11_light_62 : decode cX11_light 62 = .ok (.iastore, 1) := by decide +kernel
theorem dX11_light_63 : decode cX11_light 63 = .ok (.iconst 1, 1) := by decide +kernel
theorem dX11_light_64 : decode cX11_light 64 = .ok (.ireturn, 1) := by decide +kernel
theorem dX11_undo_0 : decode cX11_undo 0 = .ok (.aload_n 0, 1) := by decide +kernel
theorem dX11_undo_1 : decode cX11_undo 1 = .ok (.getfield 56, 3) := by decide +kernel
theorem dX11_undo_4 : decode cX11_undo 4 = .ok (.aload_n 0, 1) := by decide +kernel
theorem dX11_undo_5 : decode cX11_undo 5 = .ok (.getfield 46, 3) := by decide +kernel
theorem dX11_undo_8 : decode cX11_undo 8 = .ok (.invokevirtual 298, 3) := by decide +kernel
theorem dX11_undo_11 : decode cX11_undo 11 = .ok (.ifCond .ne 9, 3) := by decide +kernel
theorem dX11_undo_14 : decode cX11_undo 14 = .ok (.aload_n 0, 1) := by decide +kernel
theorem dX11_undo_15 : decode cX11_undo 15 = .ok (.iconst 4, 1) := by decide +kernel
theorem dX11_undo_16 : decode cX11_undo 16 = .ok (.invokevirtual 107, 3) := by decide +kernel
theorem dX11_undo_19 : decode cX11_undo 19 = .ok (.ireturn, 1) := by decide +kernel
theorem dX11_undo_20 : decode cX11_undo 20 = .ok (.aload_n 0, 1) := by decide +kernel
theorem dX11_undo_21 : decode cX11_undo 21 = .ok (.getfield 65, 3) := by decide +kernel
theorem dX11_undo_24 : decode cX11_undo 24 = .ok (.invokevirtual 125, 3) := by decide +kernel
theorem dX11_undo_27 : decode cX11_undo 27 = .ok (.iconst 1, 1) := by decide +kernel
theorem dX11_undo_28 : decode cX11_undo 28 = .ok (.ireturn, 1) := by decide +kernel
theorem dX11_seed_0 : decode cX11_seed 0 = .ok (.iload_n 1, 1) := by decide +kernel
theorem dX11_seed_1 : decode cX11_seed 1 = .ok (.ifCond .ge 9, 3) := by decide +kernel
theorem dX11_seed_4 : decode cX11_seed 4 = .ok (.aload_n 0, 1) := by decide +kernel
theorem dX11_seed_5 : decode cX11_seed 5 = .ok (.iconst 5, 1) := by decide +kernel
theorem dX11_seed_6 : decode cX11_seed 6 = .ok (.invokevirtual 107, 3) := by decide +kernel
theorem dX11_seed_9 : decode cX11_seed 9 = .ok (.ireturn, 1) := by decide +kernel
theorem dX11_seed_10 : decode cX11_seed 10 = .ok (.aload_n 0, 1) := by decide +kernel
theorem dX11_seed_11 : decode cX11_seed 11 = .ok (.iload_n 1, 1) := by decide +kernel
theorem dX11_seed_12 : decode cX11_seed 12 = .ok (.putfield 87, 3) := by decide +kernel
theorem dX11_seed_15 : decode cX11_seed 15 = .ok (.iconst 1, 1) := by decide +kernel
theorem dX11_seed_16 : decode cX11_seed 16 = .ok (.ireturn, 1) := by decide +kernel
theorem dX11_kept_0 : decode cX11_kept 0 = .ok (.iload_n 1, 1) := by decide +kernel
theorem dX11_kept_1 : decode cX11_kept 1 = .ok (.ifCond .lt 23, 3) := by decide +kernel
theorem dX11_kept_4 : decode cX11_kept 4 = .ok (.iload_n 1, 1) := by decide +kernel
theorem dX11_kept_5 : decode cX11_kept 5 = .ok (.aload_n 0, 1) := by decide +kernel
theorem dX11_kept_6 : decode cX11_kept 6 = .ok (.getfield 46, 3) := by decide +kernel
theorem dX11_kept_9 : decode cX11_kept 9 = .ok (.getfield 155, 3) := by decide +kernel
theorem dX11_kept_12 : decode cX11_kept 12 = .ok (.if_icmp .ge 12, 3) := by decide +kernel
theorem dX11_kept_15 : decode cX11_kept 15 = .ok (.iload_n 2, 1) := by decide +kernel
theorem dX11_kept_16 : decode cX11_kept 16 = .ok (.ifCond .lt 8, 3) := by decide +kernel
theorem dX11_kept_19 : decode cX11_kept 19 = .ok (.iload_n 2, 1) := by decide +kernel
theorem dX11_kept_20 : decode cX11_kept 20 = .ok (.iconst 4, 1) := by decide +kernel
theorem dX11_kept_21 : decode cX11_kept 21 = .ok (.if_icmp .lt 5, 3) := by decide +kernel
theorem dX11_kept_24 : decode cX11_kept 24 = .ok (.iconst (-1), 1) := by decide +kernel
theorem dX11_kept_25 : decode cX11_kept 25 = .ok (.ireturn, 1) := by decide +kernel
theorem dX11_kept_26 : decode cX11_kept 26 = .ok (.aload_n 0, 1) := by decide +kernel
theorem dX11_kept_27 : decode cX11_kept 27 = .ok (.getfield 46, 3) := by decide +kernel
theorem dX11_kept_30 : decode cX11_kept 30 = .ok (.getfield 302, 3) := by decide +kernel
theorem dX11_kept_33 : decode cX11_kept 33 = .ok (.iload_n 1, 1) := by decide +kernel
theorem dX11_kept_34 : decode cX11_kept 34 = .ok (.iconst 4, 1) := by decide +kernel
theorem dX11_kept_35 : decode cX11_kept 35 = .ok (.imul, 1) := by decide +kernel
theorem dX11_kept_36 : decode cX11_kept 36 = .ok (.iload_n 2, 1) := by decide +kernel
theorem dX11_kept_37 : decode cX11_kept 37 = .ok (.iadd, 1) := by decide +kernel
theorem dX11_kept_38 : decode cX11_kept 38 = .ok (.iaload, 1) := by decide +kernel
theorem dX11_kept_39 : decode cX11_kept 39 = .ok (.ireturn, 1) := by decide +kernel
theorem dX11_image_0 : decode cX11_image 0 = .ok (.aload_n 0, 1) := by decide +kernel
theorem dX11_image_1 : decode cX11_image 1 = .ok (.getfield 79, 3) := by decide +kernel
theorem dX11_image_4 : decode cX11_image 4 = .ok (.aload_n 0, 1) := by decide +kernel
theorem dX11_image_5 : decode cX11_image 5 = .ok (.getfield 46, 3) := by decide +kernel
theorem dX11_image_8 : decode cX11_image 8 = .ok (.aload_n 0, 1) := by decide +kernel
theorem dX11_image_9 : decode cX11_image 9 = .ok (.getfield 20, 3) := by decide +kernel
theorem dX11_image_12 : decode cX11_image 12 = .ok (.invokevirtual 305, 3) := by decide +kernel
theorem dX11_image_15 : decode cX11_image 15 = .ok (.aload_n 0, 1) := by decide +kernel
theorem dX11_image_16 : decode cX11_image 16 = .ok (.getfield 79, 3) := by decide +kernel
theorem dX11_image_19 : decode cX11_image 19 = .ok (.getfield 309, 3) := by decide +kernel
theorem dX11_image_22 : decode cX11_image 22 = .ok (.ireturn, 1) := by decide +kernel
theorem dX11_octet_0 : decode cX11_octet 0 = .ok (.iload_n 1, 1) := by decide +kernel
theorem dX11_octet_1 : decode cX11_octet 1 = .ok (.ifCond .lt 26, 3) := by decide +kernel
theorem dX11_octet_4 : decode cX11_octet 4 = .ok (.iload_n 1, 1) := by decide +kernel
theorem dX11_octet_5 : decode cX11_octet 5 = .ok (.aload_n 0, 1) := by decide +kernel
theorem dX11_octet_6 : decode cX11_octet 6 = .ok (.getfield 79, 3) := by decide +kernel
theorem dX11_octet_9 : decode cX11_octet 9 = .ok (.getfield 309, 3) := by decide +kernel
theorem dX11_octet_12 : decode cX11_octet 12 = .ok (.if_icmp .ge 15, 3) := by decide +kernel
theorem dX11_octet_15 : decode cX11_octet 15 = .ok (.aload_n 0, 1) := by decide +kernel
theorem dX11_octet_16 : decode cX11_octet 16 = .ok (.getfield 79, 3) := by decide +kernel
theorem dX11_octet_19 : decode cX11_octet 19 = .ok (.getfield 312, 3) := by decide +kernel
theorem dX11_octet_22 : decode cX11_octet 22 = .ok (.iload_n 1, 1) := by decide +kernel
theorem dX11_octet_23 : decode cX11_octet 23 = .ok (.iaload, 1) := by decide +kernel
theorem dX11_octet_24 : decode cX11_octet 24 = .ok (.goto 4, 3) := by decide +kernel
theorem dX11_octet_27 : decode cX11_octet 27 = .ok (.iconst (-1), 1) := by decide +kernel
theorem dX11_octet_28 : decode cX11_octet 28 = .ok (.ireturn, 1) := by decide +kernel
theorem dX11_on_0 : decode cX11_on 0 = .ok (.aload_n 0, 1) := by decide +kernel
theorem dX11_on_1 : decode cX11_on 1 = .ok (.getfield 13, 3) := by decide +kernel
theorem dX11_on_4 : decode cX11_on 4 = .ok (.istore_n 1, 1) := by decide +kernel
theorem dX11_on_5 : decode cX11_on 5 = .ok (.aload_n 0, 1) := by decide +kernel
theorem dX11_on_6 : decode cX11_on 6 = .ok (.iconst 0, 1) := by decide +kernel
theorem dX11_on_7 : decode cX11_on 7 = .ok (.putfield 13, 3) := by decide +kernel
theorem dX11_on_10 : decode cX11_on 10 = .ok (.aload_n 0, 1) := by decide +kernel
theorem dX11_on_11 : decode cX11_on 11 = .ok (.getfield 79, 3) := by decide +kernel
theorem dX11_on_14 : decode cX11_on 14 = .ok (.aload_n 0, 1) := by decide +kernel
theorem dX11_on_15 : decode cX11_on 15 = .ok (.getfield 9, 3) := by decide +kernel
theorem dX11_on_18 : decode cX11_on 18 = .ok (.iload_n 1, 1) := by decide +kernel
theorem dX11_on_19 : decode cX11_on 19 = .ok (.aload_n 0, 1) := by decide +kernel
theorem dX11_on_20 : decode cX11_on 20 = .ok (.getfield 20, 3) := by decide +kernel
theorem dX11_on_23 : decode cX11_on 23 = .ok (.aload_n 0, 1) := by decide +kernel
theorem dX11_on_24 : decode cX11_on 24 = .ok (.getfield 50, 3) := by decide +kernel
theorem dX11_on_27 : decode cX11_on 27 = .ok (.invokevirtual 315, 3) := by decide +kernel
theorem dX11_on_30 : decode cX11_on 30 = .ok (.ifCond .ne 9, 3) := by decide +kernel
theorem dX11_on_33 : decode cX11_on 33 = .ok (.aload_n 0, 1) := by decide +kernel
theorem dX11_on_34 : decode cX11_on 34 = .ok (.iconst 5, 1) := by decide +kernel
theorem dX11_on_35 : decode cX11_on 35 = .ok (.invokevirtual 107, 3) := by decide +kernel
theorem dX11_on_38 : decode cX11_on 38 = .ok (.ireturn, 1) := by decide +kernel
theorem dX11_on_39 : decode cX11_on 39 = .ok (.aload_n 0, 1) := by decide +kernel
theorem dX11_on_40 : decode cX11_on 40 = .ok (.getfield 46, 3) := by decide +kernel
theorem dX11_on_43 : decode cX11_on 43 = .ok (.aload_n 0, 1) := by decide +kernel
theorem dX11_on_44 : decode cX11_on 44 = .ok (.getfield 50, 3) := by decide +kernel
theorem dX11_on_47 : decode cX11_on 47 = .ok (.invokevirtual 249, 3) := by decide +kernel
theorem dX11_on_50 : decode cX11_on 50 = .ok (.aload_n 0, 1) := by decide +kernel
theorem dX11_on_51 : decode cX11_on 51 = .ok (.getfield 56, 3) := by decide +kernel
theorem dX11_on_54 : decode cX11_on 54 = .ok (.iconst 0, 1) := by decide +kernel
theorem dX11_on_55 : decode cX11_on 55 = .ok (.putfield 124, 3) := by decide +kernel
theorem dX11_on_58 : decode cX11_on 58 = .ok (.aload_n 0, 1) := by decide +kernel
theorem dX11_on_59 : decode cX11_on 59 = .ok (.getfield 65, 3) := by decide +kernel
theorem dX11_on_62 : decode cX11_on 62 = .ok (.invokevirtual 125, 3) := by decide +kernel
theorem dX11_on_65 : decode cX11_on 65 = .ok (.iconst 1, 1) := by decide +kernel
theorem dX11_on_66 : decode cX11_on 66 = .ok (.ireturn, 1) := by decide +kernel
theorem dX11_status_0 : decode cX11_status 0 = .ok (.iload_n 1, 1) := by decide +kernel
theorem dX11_status_1 : decode cX11_status 1 = .ok (.ifCond .lt 21, 3) := by decide +kernel
theorem dX11_status_4 : decode cX11_status 4 = .ok (.iload_n 1, 1) := by decide +kernel
theorem dX11_status_5 : decode cX11_status 5 = .ok (.aload_n 0, 1) := by decide +kernel
theorem dX11_status_6 : decode cX11_status 6 = .ok (.getfield 83, 3) := by decide +kernel
theorem dX11_status_9 : decode cX11_status 9 = .ok (.arraylength, 1) := by decide +kernel
theorem dX11_status_10 : decode cX11_status 10 = .ok (.if_icmp .ge 12, 3) := by decide +kernel
theorem dX11_status_13 : decode cX11_status 13 = .ok (.aload_n 0, 1) := by decide +kernel
theorem dX11_status_14 : decode cX11_status 14 = .ok (.getfield 83, 3) := by decide +kernel
theorem dX11_status_17 : decode cX11_status 17 = .ok (.iload_n 1, 1) := by decide +kernel
theorem dX11_status_18 : decode cX11_status 18 = .ok (.iaload, 1) := by decide +kernel
theorem dX11_status_19 : decode cX11_status 19 = .ok (.goto 4, 3) := by decide +kernel
theorem dX11_status_22 : decode cX11_status 22 = .ok (.iconst (-1), 1) := by decide +kernel
theorem dX11_status_23 : decode cX11_status 23 = .ok (.ireturn, 1) := by decide +kernel
theorem dX11_refuseWithNone_0 : decode cX11_refuseWithNone 0 = .ok (.aload_n 0, 1) := by decide +kernel
theorem dX11_refuseWithNone_1 : decode cX11_refuseWithNone 1 = .ok (.getfield 83, 3) := by decide +kernel
theorem dX11_refuseWithNone_4 : decode cX11_refuseWithNone 4 = .ok (.iload_n 1, 1) := by decide +kernel
theorem dX11_refuseWithNone_5 : decode cX11_refuseWithNone 5 = .ok (.dup2, 1) := by decide +kernel
theorem dX11_refuseWithNone_6 : decode cX11_refuseWithNone 6 = .ok (.iaload, 1) := by decide +kernel
theorem dX11_refuseWithNone_7 : decode cX11_refuseWithNone 7 = .ok (.iconst 1, 1) := by decide +kernel
theorem dX11_refuseWithNone_8 : decode cX11_refuseWithNone 8 = .ok (.iadd, 1) := by decide +kernel
theorem dX11_refuseWithNone_9 : decode cX11_refuseWithNone 9 = .ok (.iastore, 1) := by decide +kernel
theorem dX11_refuseWithNone_10 : decode cX11_refuseWithNone 10 = .ok (.iconst (-1), 1) := by decide +kernel
theorem dX11_refuseWithNone_11 : decode cX11_refuseWithNone 11 = .ok (.ireturn, 1) := by decide +kernel
theorem dX11_refuseWithFalse_0 : decode cX11_refuseWithFalse 0 = .ok (.aload_n 0, 1) := by decide +kernel
theorem dX11_refuseWithFalse_1 : decode cX11_refuseWithFalse 1 = .ok (.getfield 83, 3) := by decide +kernel
theorem dX11_refuseWithFalse_4 : decode cX11_refuseWithFalse 4 = .ok (.iload_n 1, 1) := by decide +kernel
theorem dX11_refuseWithFalse_5 : decode cX11_refuseWithFalse 5 = .ok (.dup2, 1) := by decide +kernel
theorem dX11_refuseWithFalse_6 : decode cX11_refuseWithFalse 6 = .ok (.iaload, 1) := by decide +kernel
theorem dX11_refuseWithFalse_7 : decode cX11_refuseWithFalse 7 = .ok (.iconst 1, 1) := by decide +kernel
theorem dX11_refuseWithFalse_8 : decode cX11_refuseWithFalse 8 = .ok (.iadd, 1) := by decide +kernel
theorem dX11_refuseWithFalse_9 : decode cX11_refuseWithFalse 9 = .ok (.iastore, 1) := by decide +kernel
theorem dX11_refuseWithFalse_10 : decode cX11_refuseWithFalse 10 = .ok (.iconst 0, 1) := by decide +kernel
theorem dX11_refuseWithFalse_11 : decode cX11_refuseWithFalse 11 = .ok (.ireturn, 1) := by decide +kernel
theorem dX11_putWord_0 : decode cX11_putWord 0 = .ok (.bipush 24, 2) := by decide +kernel
theorem dX11_putWord_2 : decode cX11_putWord 2 = .ok (.istore_n 2, 1) := by decide +kernel
theorem dX11_putWord_3 : decode cX11_putWord 3 = .ok (.iload_n 2, 1) := by decide +kernel
theorem dX11_putWord_4 : decode cX11_putWord 4 = .ok (.ifCond .lt 42, 3) := by decide +kernel
theorem dX11_putWord_7 : decode cX11_putWord 7 = .ok (.aload_n 0, 1) := by decide +kernel
theorem dX11_putWord_8 : decode cX11_putWord 8 = .ok (.getfield 13, 3) := by decide +kernel
theorem dX11_putWord_11 : decode cX11_putWord 11 = .ok (.sipush 1600, 3) := by decide +kernel
theorem dX11_putWord_14 : decode cX11_putWord 14 = .ok (.if_icmp .ge 32, 3) := by decide +kernel
theorem dX11_putWord_17 : decode cX11_putWord 17 = .ok (.aload_n 0, 1) := by decide +kernel
theorem dX11_putWord_18 : decode cX11_putWord 18 = .ok (.getfield 9, 3) := by decide +kernel
theorem dX11_putWord_21 : decode cX11_putWord 21 = .ok (.aload_n 0, 1) := by decide +kernel
theorem dX11_putWord_22 : decode cX11_putWord 22 = .ok (.getfield 13, 3) := by decide +kernel
theorem dX11_putWord_25 : decode cX11_putWord 25 = .ok (.iload_n 1, 1) := by decide +kernel
theorem dX11_putWord_26 : decode cX11_putWord 26 = .ok (.iload_n 2, 1) := by decide +kernel
theorem dX11_putWord_27 : decode cX11_putWord 27 = .ok (.ishr, 1) := by decide +kernel
theorem dX11_putWord_28 : decode cX11_putWord 28 = .ok (.i2b, 1) := by decide +kernel
theorem dX11_putWord_29 : decode cX11_putWord 29 = .ok (.bastore, 1) := by decide +kernel
theorem dX11_putWord_30 : decode cX11_putWord 30 = .ok (.aload_n 0, 1) := by decide +kernel
theorem dX11_putWord_31 : decode cX11_putWord 31 = .ok (.dup, 1) := by decide +kernel
theorem dX11_putWord_32 : decode cX11_putWord 32 = .ok (.getfield 13, 3) := by decide +kernel
theorem dX11_putWord_35 : decode cX11_putWord 35 = .ok (.iconst 1, 1) := by decide +kernel
theorem dX11_putWord_36 : decode cX11_putWord 36 = .ok (.iadd, 1) := by decide +kernel
theorem dX11_putWord_37 : decode cX11_putWord 37 = .ok (.putfield 13, 3) := by decide +kernel
theorem dX11_putWord_40 : decode cX11_putWord 40 = .ok (.iinc 2 (-8), 3) := by decide +kernel
theorem dX11_putWord_43 : decode cX11_putWord 43 = .ok (.goto (-40), 3) := by decide +kernel
theorem dX11_putWord_46 : decode cX11_putWord 46 = .ok (.return_, 1) := by decide +kernel
theorem dX11_isChild_0 : decode cX11_isChild 0 = .ok (.iload_n 1, 1) := by decide +kernel
theorem dX11_isChild_1 : decode cX11_isChild 1 = .ok (.ifCond .lt 18, 3) := by decide +kernel
theorem dX11_isChild_4 : decode cX11_isChild 4 = .ok (.iload_n 1, 1) := by decide +kernel
theorem dX11_isChild_5 : decode cX11_isChild 5 = .ok (.aload_n 0, 1) := by decide +kernel
theorem dX11_isChild_6 : decode cX11_isChild 6 = .ok (.getfield 20, 3) := by decide +kernel
theorem dX11_isChild_9 : decode cX11_isChild 9 = .ok (.getfield 131, 3) := by decide +kernel
theorem dX11_isChild_12 : decode cX11_isChild 12 = .ok (.if_icmp .ge 7, 3) := by decide +kernel
theorem dX11_isChild_15 : decode cX11_isChild 15 = .ok (.iconst 1, 1) := by decide +kernel
theorem dX11_isChild_16 : decode cX11_isChild 16 = .ok (.goto 4, 3) := by decide +kernel
theorem dX11_isChild_19 : decode cX11_isChild 19 = .ok (.iconst 0, 1) := by decide +kernel
theorem dX11_isChild_20 : decode cX11_isChild 20 = .ok (.ireturn, 1) := by decide +kernel
theorem dX11_isKiln_0 : decode cX11_isKiln 0 = .ok (.iload_n 1, 1) := by decide +kernel
theorem dX11_isKiln_1 : decode cX11_isKiln 1 = .ok (.ifCond .lt 18, 3) := by decide +kernel
theorem dX11_isKiln_4 : decode cX11_isKiln 4 = .ok (.iload_n 1, 1) := by decide +kernel
theorem dX11_isKiln_5 : decode cX11_isKiln 5 = .ok (.aload_n 0, 1) := by decide +kernel
theorem dX11_isKiln_6 : decode cX11_isKiln 6 = .ok (.getfield 20, 3) := by decide +kernel
theorem dX11_isKiln_9 : decode cX11_isKiln 9 = .ok (.getfield 134, 3) := by decide +kernel
theorem dX11_isKiln_12 : decode cX11_isKiln 12 = .ok (.if_icmp .ge 7, 3) := by decide +kernel
theorem dX11_isKiln_15 : decode cX11_isKiln 15 = .ok (.iconst 1, 1) := by decide +kernel
theorem dX11_isKiln_16 : decode cX11_isKiln 16 = .ok (.goto 4, 3) := by decide +kernel
theorem dX11_isKiln_19 : decode cX11_isKiln 19 = .ok (.iconst 0, 1) := by decide +kernel
theorem dX11_isKiln_20 : decode cX11_isKiln 20 = .ok (.ireturn, 1) := by decide +kernel
theorem dX11_isPlaceOf_0 : decode cX11_isPlaceOf 0 = .ok (.aload_n 0, 1) := by decide +kernel
theorem dX11_isPlaceOf_1 : decode cX11_isPlaceOf 1 = .ok (.iload_n 1, 1) := by decide +kernel
theorem dX11_isPlaceOf_2 : decode cX11_isPlaceOf 2 = .ok (.invokevirtual 167, 3) := by decide +kernel
theorem dX11_isPlaceOf_5 : decode cX11_isPlaceOf 5 = .ok (.ifCond .eq 24, 3) := by decide +kernel
theorem dX11_isPlaceOf_8 : decode cX11_isPlaceOf 8 = .ok (.iload_n 2, 1) := by decide +kernel
theorem dX11_isPlaceOf_9 : decode cX11_isPlaceOf 9 = .ok (.ifCond .lt 20, 3) := by decide +kernel
theorem dX11_isPlaceOf_12 : decode cX11_isPlaceOf 12 = .ok (.iload_n 2, 1) := by decide +kernel
theorem dX11_isPlaceOf_13 : decode cX11_isPlaceOf 13 = .ok (.aload_n 0, 1) := by decide +kernel
theorem dX11_isPlaceOf_14 : decode cX11_isPlaceOf 14 = .ok (.getfield 20, 3) := by decide +kernel
theorem dX11_isPlaceOf_17 : decode cX11_isPlaceOf 17 = .ok (.getfield 194, 3) := by decide +kernel
theorem dX11_isPlaceOf_20 : decode cX11_isPlaceOf 20 = .ok (.iload_n 1, 1) := by decide +kernel
theorem dX11_isPlaceOf_21 : decode cX11_isPlaceOf 21 = .ok (.iaload, 1) := by decide +kernel
theorem dX11_isPlaceOf_22 : decode cX11_isPlaceOf 22 = .ok (.if_icmp .ge 7, 3) := by decide +kernel
theorem dX11_isPlaceOf_25 : decode cX11_isPlaceOf 25 = .ok (.iconst 1, 1) := by decide +kernel
theorem dX11_isPlaceOf_26 : decode cX11_isPlaceOf 26 = .ok (.goto 4, 3) := by decide +kernel
theorem dX11_isPlaceOf_29 : decode cX11_isPlaceOf 29 = .ok (.iconst 0, 1) := by decide +kernel
theorem dX11_isPlaceOf_30 : decode cX11_isPlaceOf 30 = .ok (.ireturn, 1) := by decide +kernel
theorem dX11_isPlace_0 : decode cX11_isPlace 0 = .ok (.iload_n 0, 1) := by decide +kernel
theorem dX11_isPlace_1 : decode cX11_isPlace 1 = .ok (.ifCond .lt 13, 3) := by decide +kernel
theorem dX11_isPlace_4 : decode cX11_isPlace 4 = .ok (.iload_n 0, 1) := by decide +kernel
theorem dX11_isPlace_5 : decode cX11_isPlace 5 = .ok (.bipush 6, 2) := by decide +kernel
theorem dX11_isPlace_7 : decode cX11_isPlace 7 = .ok (.if_icmp .ge 7, 3) := by decide +kernel
theorem dX11_isPlace_10 : decode cX11_isPlace 10 = .ok (.iconst 1, 1) := by decide +kernel
theorem dX11_isPlace_11 : decode cX11_isPlace 11 = .ok (.goto 4, 3) := by decide +kernel
theorem dX11_isPlace_14 : decode cX11_isPlace 14 = .ok (.iconst 0, 1) := by decide +kernel
theorem dX11_isPlace_15 : decode cX11_isPlace 15 = .ok (.ireturn, 1) := by decide +kernel
theorem dX11_isHeat_0 : decode cX11_isHeat 0 = .ok (.iload_n 0, 1) := by decide +kernel
theorem dX11_isHeat_1 : decode cX11_isHeat 1 = .ok (.ifCond .lt 13, 3) := by decide +kernel
theorem dX11_isHeat_4 : decode cX11_isHeat 4 = .ok (.iload_n 0, 1) := by decide +kernel
theorem dX11_isHeat_5 : decode cX11_isHeat 5 = .ok (.bipush 20, 2) := by decide +kernel
theorem dX11_isHeat_7 : decode cX11_isHeat 7 = .ok (.if_icmp .gt 7, 3) := by decide +kernel
theorem dX11_isHeat_10 : decode cX11_isHeat 10 = .ok (.iconst 1, 1) := by decide +kernel
theorem dX11_isHeat_11 : decode cX11_isHeat 11 = .ok (.goto 4, 3) := by decide +kernel
theorem dX11_isHeat_14 : decode cX11_isHeat 14 = .ok (.iconst 0, 1) := by decide +kernel
theorem dX11_isHeat_15 : decode cX11_isHeat 15 = .ok (.ireturn, 1) := by decide +kernel
theorem dX11_canPass_0 : decode cX11_canPass 0 = .ok (.iload_n 1, 1) := by decide +kernel
theorem dX11_canPass_1 : decode cX11_canPass 1 = .ok (.iconst 1, 1) := by decide +kernel
theorem dX11_canPass_2 : decode cX11_canPass 2 = .ok (.if_icmp .lt 28, 3) := by decide +kernel
theorem dX11_canPass_5 : decode cX11_canPass 5 = .ok (.iload_n 1, 1) := by decide +kernel
theorem dX11_canPass_6 : decode cX11_canPass 6 = .ok (.bipush 40, 2) := by decide +kernel
theorem dX11_canPass_8 : decode cX11_canPass 8 = .ok (.if_icmp .gt 22, 3) := by decide +kernel
theorem dX11_canPass_11 : decode cX11_canPass 11 = .ok (.aload_n 0, 1) := by decide +kernel
theorem dX11_canPass_12 : decode cX11_canPass 12 = .ok (.getfield 46, 3) := by decide +kernel
theorem dX11_canPass_15 : decode cX11_canPass 15 = .ok (.getfield 137, 3) := by decide +kernel
theorem dX11_canPass_18 : decode cX11_canPass 18 = .ok (.iload_n 1, 1) := by decide +kernel
theorem dX11_canPass_19 : decode cX11_canPass 19 = .ok (.iadd, 1) := by decide +kernel
theorem dX11_canPass_20 : decode cX11_canPass 20 = .ok (.sipush 999, 3) := by decide +kernel
theorem dX11_canPass_23 : decode cX11_canPass 23 = .ok (.if_icmp .gt 7, 3) := by decide +kernel
theorem dX11_canPass_26 : decode cX11_canPass 26 = .ok (.iconst 1, 1) := by decide +kernel
theorem dX11_canPass_27 : decode cX11_canPass 27 = .ok (.goto 4, 3) := by decide +kernel
theorem dX11_canPass_30 : decode cX11_canPass 30 = .ok (.iconst 0, 1) := by decide +kernel
theorem dX11_canPass_31 : decode cX11_canPass 31 = .ok (.ireturn, 1) := by decide +kernel
theorem dX11_beginAct_0 : decode cX11_beginAct 0 = .ok (.aload_n 0, 1) := by decide +kernel
theorem dX11_beginAct_1 : decode cX11_beginAct 1 = .ok (.getfield 56, 3) := by decide +kernel
theorem dX11_beginAct_4 : decode cX11_beginAct 4 = .ok (.aload_n 0, 1) := by decide +kernel
theorem dX11_beginAct_5 : decode cX11_beginAct 5 = .ok (.getfield 46, 3) := by decide +kernel
theorem dX11_beginAct_8 : decode cX11_beginAct 8 = .ok (.invokevirtual 318, 3) := by decide +kernel
theorem dX11_beginAct_11 : decode cX11_beginAct 11 = .ok (.aload_n 0, 1) := by decide +kernel
theorem dX11_beginAct_12 : decode cX11_beginAct 12 = .ok (.getfield 65, 3) := by decide +kernel
theorem dX11_beginAct_15 : decode cX11_beginAct 15 = .ok (.invokevirtual 125, 3) := by decide +kernel
theorem dX11_beginAct_18 : decode cX11_beginAct 18 = .ok (.return_, 1) := by decide +kernel
theorem dX11_lookAhead_0 : decode cX11_lookAhead 0 = .ok (.iload_n 1, 1) := by decide +kernel
theorem dX11_lookAhead_1 : decode cX11_lookAhead 1 = .ok (.ifCond .eq 13, 3) := by decide +kernel
theorem dX11_lookAhead_4 : decode cX11_lookAhead 4 = .ok (.aload_n 0, 1) := by decide +kernel
theorem dX11_lookAhead_5 : decode cX11_lookAhead 5 = .ok (.iload_n 1, 1) := by decide +kernel
theorem dX11_lookAhead_6 : decode cX11_lookAhead 6 = .ok (.invokevirtual 283, 3) := by decide +kernel
theorem dX11_lookAhead_9 : decode cX11_lookAhead 9 = .ok (.ifCond .ne 5, 3) := by decide +kernel
theorem dX11_lookAhead_12 : decode cX11_lookAhead 12 = .ok (.iconst 0, 1) := by decide +kernel
theorem dX11_lookAhead_13 : decode cX11_lookAhead 13 = .ok (.ireturn, 1) := by decide +kernel
theorem dX11_lookAhead_14 : decode cX11_lookAhead 14 = .ok (.aload_n 0, 1) := by decide +kernel
theorem dX11_lookAhead_15 : decode cX11_lookAhead 15 = .ok (.getfield 50, 3) := by decide +kernel
theorem dX11_lookAhead_18 : decode cX11_lookAhead 18 = .ok (.aload_n 0, 1) := by decide +kernel
theorem dX11_lookAhead_19 : decode cX11_lookAhead 19 = .ok (.getfield 46, 3) := by decide +kernel
theorem dX11_lookAhead_22 : decode cX11_lookAhead 22 = .ok (.invokevirtual 249, 3) := by decide +kernel
theorem dX11_lookAhead_25 : decode cX11_lookAhead 25 = .ok (.iconst 0, 1) := by decide +kernel
theorem dX11_lookAhead_26 : decode cX11_lookAhead 26 = .ok (.istore_n 2, 1) := by decide +kernel
theorem dX11_lookAhead_27 : decode cX11_lookAhead 27 = .ok (.iload_n 2, 1) := by decide +kernel
theorem dX11_lookAhead_28 : decode cX11_lookAhead 28 = .ok (.iload_n 1, 1) := by decide +kernel
theorem dX11_lookAhead_29 : decode cX11_lookAhead 29 = .ok (.if_icmp .ge 22, 3) := by decide +kernel
theorem dX11_lookAhead_32 : decode cX11_lookAhead 32 = .ok (.aload_n 0, 1) := by decide +kernel
theorem dX11_lookAhead_33 : decode cX11_lookAhead 33 = .ok (.getfield 39, 3) := by decide +kernel
theorem dX11_lookAhead_36 : decode cX11_lookAhead 36 = .ok (.aload_n 0, 1) := by decide +kernel
theorem dX11_lookAhead_37 : decode cX11_lookAhead 37 = .ok (.getfield 50, 3) := by decide +kernel
theorem dX11_lookAhead_40 : decode cX11_lookAhead 40 = .ok (.iconst 0, 1) := by decide +kernel
theorem dX11_lookAhead_41 : decode cX11_lookAhead 41 = .ok (.invokevirtual 253, 3) := by decide +kernel
theorem dX11_lookAhead_44 : decode cX11_lookAhead 44 = .ok (.pop, 1) := by decide +kernel
theorem dX11_lookAhead_45 : decode cX11_lookAhead 45 = .ok (.iinc 2 1, 3) := by decide +kernel
theorem dX11_lookAhead_48 : decode cX11_lookAhead 48 = .ok (.goto (-21), 3) := by decide +kernel
theorem dX11_lookAhead_51 : decode cX11_lookAhead 51 = .ok (.iconst 1, 1) := by decide +kernel
theorem dX11_lookAhead_52 : decode cX11_lookAhead 52 = .ok (.ireturn, 1) := by decide +kernel
theorem dX11_draw_0 : decode cX11_draw 0 = .ok (.aload_n 0, 1) := by decide +kernel
theorem dX11_draw_1 : decode cX11_draw 1 = .ok (.ldc2_w 321, 3) := by decide +kernel
theorem dX11_draw_4 : decode cX11_draw 4 = .ok (.aload_n 0, 1) := by decide +kernel
theorem dX11_draw_5 : decode cX11_draw 5 = .ok (.getfield 87, 3) := by decide +kernel
theorem dX11_draw_8 : decode cX11_draw 8 = .ok (.i2l, 1) := by decide +kernel
theorem dX11_draw_9 : decode cX11_draw 9 = .ok (.lmul, 1) := by decide +kernel
theorem dX11_draw_10 : decode cX11_draw 10 = .ok (.ldc2_w 323, 3) := by decide +kernel
theorem dX11_draw_13 : decode cX11_draw 13 = .ok (.ladd, 1) := by decide +kernel
theorem dX11_draw_14 : decode cX11_draw 14 = .ok (.ldc2_w 325, 3) := by decide +kernel
theorem dX11_draw_17 : decode cX11_draw 17 = .ok (.land, 1) := by decide +kernel
theorem dX11_draw_18 : decode cX11_draw 18 = .ok (.l2i, 1) := by decide +kernel
theorem dX11_draw_19 : decode cX11_draw 19 = .ok (.putfield 87, 3) := by decide +kernel
theorem dX11_draw_22 : decode cX11_draw 22 = .ok (.iload_n 1, 1) := by decide +kernel
theorem dX11_draw_23 : decode cX11_draw 23 = .ok (.ifCond .le 15, 3) := by decide +kernel
theorem dX11_draw_26 : decode cX11_draw 26 = .ok (.aload_n 0, 1) := by decide +kernel
theorem dX11_draw_27 : decode cX11_draw 27 = .ok (.getfield 87, 3) := by decide +kernel
theorem dX11_draw_30 : decode cX11_draw 30 = .ok (.bipush 64, 2) := by decide +kernel
theorem dX11_draw_32 : decode cX11_draw 32 = .ok (.idiv, 1) := by decide +kernel
theorem dX11_draw_33 : decode cX11_draw 33 = .ok (.iload_n 1, 1) := by decide +kernel
theorem dX11_draw_34 : decode cX11_draw 34 = .ok (.irem, 1) := by decide +kernel
theorem dX11_draw_35 : decode cX11_draw 35 = .ok (.goto 4, 3) := by decide +kernel
theorem dX11_draw_38 : decode cX11_draw 38 = .ok (.iconst 0, 1) := by decide +kernel
theorem dX11_draw_39 : decode cX11_draw 39 = .ok (.ireturn, 1) := by decide +kernel
theorem dX11_crackingRows_0 : decode cX11_crackingRows 0 = .ok (.aload_n 0, 1) := by decide +kernel
theorem dX11_crackingRows_1 : decode cX11_crackingRows 1 = .ok (.iload_n 1, 1) := by decide +kernel
theorem dX11_crackingRows_2 : decode cX11_crackingRows 2 = .ok (.iload_n 2, 1) := by decide +kernel
theorem dX11_crackingRows_3 : decode cX11_crackingRows 3 = .ok (.aload_n 0, 1) := by decide +kernel
theorem dX11_crackingRows_4 : decode cX11_crackingRows 4 = .ok (.getfield 46, 3) := by decide +kernel
theorem dX11_crackingRows_7 : decode cX11_crackingRows 7 = .ok (.getfield 182, 3) := by decide +kernel
theorem dX11_crackingRows_10 : decode cX11_crackingRows 10 = .ok (.iload_n 1, 1) := by decide +kernel
theorem dX11_crackingRows_11 : decode cX11_crackingRows 11 = .ok (.iaload, 1) := by decide +kernel
theorem dX11_crackingRows_12 : decode cX11_crackingRows 12 = .ok (.invokevirtual 327, 3) := by decide +kernel
theorem dX11_crackingRows_15 : decode cX11_crackingRows 15 = .ok (.istore_n 3, 1) := by decide +kernel
theorem dX11_crackingRows_16 : decode cX11_crackingRows 16 = .ok (.bipush 100, 2) := by decide +kernel
theorem dX11_crackingRows_18 : decode cX11_crackingRows 18 = .ok (.aload_n 0, 1) := by decide +kernel
theorem dX11_crackingRows_19 : decode cX11_crackingRows 19 = .ok (.getfield 20, 3) := by decide +kernel
theorem dX11_crackingRows_22 : decode cX11_crackingRows 22 = .ok (.getfield 292, 3) := by decide +kernel
theorem dX11_crackingRows_25 : decode cX11_crackingRows 25 = .ok (.isub, 1) := by decide +kernel
theorem dX11_crackingRows_26 : decode cX11_crackingRows 26 = .ok (.iconst 3, 1) := by decide +kernel
theorem dX11_crackingRows_27 : decode cX11_crackingRows 27 = .ok (.imul, 1) := by decide +kernel
theorem dX11_crackingRows_28 : decode cX11_crackingRows 28 = .ok (.iload_n 3, 1) := by decide +kernel
theorem dX11_crackingRows_29 : decode cX11_crackingRows 29 = .ok (.imul, 1) := by decide +kernel
theorem dX11_crackingRows_30 : decode cX11_crackingRows 30 = .ok (.istore 4, 2) := by decide +kernel
theorem dX11_crackingRows_32 : decode cX11_crackingRows 32 = .ok (.iconst 1, 1) := by decide +kernel
theorem dX11_crackingRows_33 : decode cX11_crackingRows 33 = .ok (.istore 5, 2) := by decide +kernel
theorem dX11_crackingRows_35 : decode cX11_crackingRows 35 = .ok (.iload 5, 2) := by decide +kernel
theorem dX11_crackingRows_37 : decode cX11_crackingRows 37 = .ok (.iconst 3, 1) := by decide +kernel
theorem dX11_crackingRows_38 : decode cX11_crackingRows 38 = .ok (.if_icmp .gt 49, 3) := by decide +kernel
theorem dX11_crackingRows_41 : decode cX11_crackingRows 41 = .ok (.bipush 20, 2) := by decide +kernel
theorem dX11_crackingRows_43 : decode cX11_crackingRows 43 = .ok (.iload_n 2, 1) := by decide +kernel
theorem dX11_crackingRows_44 : decode cX11_crackingRows 44 = .ok (.iload 5, 2) := by decide +kernel
theorem dX11_crackingRows_46 : decode cX11_crackingRows 46 = .ok (.iadd, 1) := by decide +kernel
theorem dX11_crackingRows_47 : decode cX11_crackingRows 47 = .ok (.invokestatic 331, 3) := by decide +kernel
theorem dX11_crackingRows_50 : decode cX11_crackingRows 50 = .ok (.istore 6, 2) := by decide +kernel
theorem dX11_crackingRows_52 : decode cX11_crackingRows 52 = .ok (.iload 4, 2) := by decide +kernel
theorem dX11_crackingRows_54 : decode cX11_crackingRows 54 = .ok (.aload_n 0, 1) := by decide +kernel
theorem dX11_crackingRows_55 : decode cX11_crackingRows 55 = .ok (.getfield 20, 3) := by decide +kernel
theorem dX11_crackingRows_58 : decode cX11_crackingRows 58 = .ok (.getfield 292, 3) := by decide +kernel
theorem dX11_crackingRows_61 : decode cX11_crackingRows 61 = .ok (.aload_n 0, 1) := by decide +kernel
theorem dX11_crackingRows_62 : decode cX11_crackingRows 62 = .ok (.iload_n 1, 1) := by decide +kernel
theorem dX11_crackingRows_63 : decode cX11_crackingRows 63 = .ok (.iload 6, 2) := by decide +kernel
theorem dX11_crackingRows_65 : decode cX11_crackingRows 65 = .ok (.aload_n 0, 1) := by decide +kernel
theorem dX11_crackingRows_66 : decode cX11_crackingRows 66 = .ok (.getfield 46, 3) := by decide +kernel
theorem dX11_crackingRows_69 : decode cX11_crackingRows 69 = .ok (.getfield 182, 3) := by decide +kernel
theorem dX11_crackingRows_72 : decode cX11_crackingRows 72 = .ok (.iload_n 1, 1) := by decide +kernel
theorem dX11_crackingRows_73 : decode cX11_crackingRows 73 = .ok (.iaload, 1) := by decide +kernel
theorem dX11_crackingRows_74 : decode cX11_crackingRows 74 = .ok (.invokevirtual 327, 3) := by decide +kernel
theorem dX11_crackingRows_77 : decode cX11_crackingRows 77 = .ok (.imul, 1) := by decide +kernel
theorem dX11_crackingRows_78 : decode cX11_crackingRows 78 = .ok (.iadd, 1) := by decide +kernel
theorem dX11_crackingRows_79 : decode cX11_crackingRows 79 = .ok (.istore 4, 2) := by decide +kernel
theorem dX11_crackingRows_81 : decode cX11_crackingRows 81 = .ok (.iinc 5 1, 3) := by decide +kernel
theorem dX11_crackingRows_84 : decode cX11_crackingRows 84 = .ok (.goto (-49), 3) := by decide +kernel
theorem dX11_crackingRows_87 : decode cX11_crackingRows 87 = .ok (.iload 4, 2) := by decide +kernel
theorem dX11_crackingRows_89 : decode cX11_crackingRows 89 = .ok (.ireturn, 1) := by decide +kernel
theorem dX12_init_0 : decode cX12_init 0 = .ok (.aload_n 0, 1) := by decide +kernel
theorem dX12_init_1 : decode cX12_init 1 = .ok (.invokespecial 1, 3) := by decide +kernel
theorem dX12_init_4 : decode cX12_init 4 = .ok (.aload_n 0, 1) := by decide +kernel
theorem dX12_init_5 : decode cX12_init 5 = .ok (.sipush 1800, 3) := by decide +kernel
theorem dX12_init_8 : decode cX12_init 8 = .ok (.newarray .int, 2) := by decide +kernel
theorem dX12_init_10 : decode cX12_init 10 = .ok (.putfield 7, 3) := by decide +kernel
theorem dX12_init_13 : decode cX12_init 13 = .ok (.aload_n 0, 1) := by decide +kernel
theorem dX12_init_14 : decode cX12_init 14 = .ok (.iconst 0, 1) := by decide +kernel
theorem dX12_init_15 : decode cX12_init 15 = .ok (.putfield 13, 3) := by decide +kernel
theorem dX12_init_18 : decode cX12_init 18 = .ok (.aload_n 0, 1) := by decide +kernel
theorem dX12_init_19 : decode cX12_init 19 = .ok (.iconst 0, 1) := by decide +kernel
theorem dX12_init_20 : decode cX12_init 20 = .ok (.putfield 17, 3) := by decide +kernel
theorem dX12_init_23 : decode cX12_init 23 = .ok (.aload_n 0, 1) := by decide +kernel
theorem dX12_init_24 : decode cX12_init 24 = .ok (.iconst 0, 1) := by decide +kernel
theorem dX12_init_25 : decode cX12_init 25 = .ok (.putfield 20, 3) := by decide +kernel
theorem dX12_init_28 : decode cX12_init 28 = .ok (.aload_n 0, 1) := by decide +kernel
theorem dX12_init_29 : decode cX12_init 29 = .ok (.iconst 0, 1) := by decide +kernel
theorem dX12_init_30 : decode cX12_init 30 = .ok (.putfield 23, 3) := by decide +kernel
theorem dX12_init_33 : decode cX12_init 33 = .ok (.aload_n 0, 1) := by decide +kernel
theorem dX12_init_34 : decode cX12_init 34 = .ok (.iconst 0, 1) := by decide +kernel
theorem dX12_init_35 : decode cX12_init 35 = .ok (.putfield 26, 3) := by decide +kernel
theorem dX12_init_38 : decode cX12_init 38 = .ok (.aload_n 0, 1) := by decide +kernel
theorem dX12_init_39 : decode cX12_init 39 = .ok (.iconst 0, 1) := by decide +kernel
theorem dX12_init_40 : decode cX12_init 40 = .ok (.putfield 29, 3) := by decide +kernel
theorem dX12_init_43 : decode cX12_init 43 = .ok (.aload_n 0, 1) := by decide +kernel
theorem dX12_init_44 : decode cX12_init 44 = .ok (.lconst 0, 1) := by decide +kernel
theorem dX12_init_45 : decode cX12_init 45 = .ok (.putfield 32, 3) := by decide +kernel
theorem dX12_init_48 : decode cX12_init 48 = .ok (.aload_n 0, 1) := by decide +kernel
theorem dX12_init_49 : decode cX12_init 49 = .ok (.iconst 0, 1) := by decide +kernel
theorem dX12_init_50 : decode cX12_init 50 = .ok (.putfield 36, 3) := by decide +kernel
theorem dX12_init_53 : decode cX12_init 53 = .ok (.aload_n 0, 1) := by decide +kernel
theorem dX12_init_54 : decode cX12_init 54 = .ok (.iconst (-1), 1) := by decide +kernel
theorem dX12_init_55 : decode cX12_init 55 = .ok (.putfield 39, 3) := by decide +kernel
theorem dX12_init_58 : decode cX12_init 58 = .ok (.aload_n 0, 1) := by decide +kernel
theorem dX12_init_59 : decode cX12_init 59 = .ok (.iconst 0, 1) := by decide +kernel
theorem dX12_init_60 : decode cX12_init 60 = .ok (.putfield 42, 3) := by decide +kernel
theorem dX12_init_63 : decode cX12_init 63 = .ok (.aload_n 0, 1) := by decide +kernel
theorem dX12_init_64 : decode cX12_init 64 = .ok (.iconst (-1), 1) := by decide +kernel
theorem dX12_init_65 : decode cX12_init 65 = .ok (.putfield 45, 3) := by decide +kernel
theorem dX12_init_68 : decode cX12_init 68 = .ok (.aload_n 0, 1) := by decide +kernel
theorem dX12_init_69 : decode cX12_init 69 = .ok (.iconst (-1), 1) := by decide +kernel
theorem dX12_init_70 : decode cX12_init 70 = .ok (.putfield 48, 3) := by decide +kernel
theorem dX12_init_73 : decode cX12_init 73 = .ok (.aload_n 0, 1) := by decide +kernel
theorem dX12_init_74 : decode cX12_init 74 = .ok (.iconst 0, 1) := by decide +kernel
theorem dX12_init_75 : decode cX12_init 75 = .ok (.putfield 51, 3) := by decide +kernel
theorem dX12_init_78 : decode cX12_init 78 = .ok (.aload_n 0, 1) := by decide +kernel
theorem dX12_init_79 : decode cX12_init 79 = .ok (.iconst 2, 1) := by decide +kernel
theorem dX12_init_80 : decode cX12_init 80 = .ok (.newarray .int, 2) := by decide +kernel
theorem dX12_init_82 : decode cX12_init 82 = .ok (.putfield 54, 3) := by decide +kernel
theorem dX12_init_85 : decode cX12_init 85 = .ok (.aload_n 0, 1) := by decide +kernel
theorem dX12_init_86 : decode cX12_init 86 = .ok (.bipush 16, 2) := by decide +kernel
theorem dX12_init_88 : decode cX12_init 88 = .ok (.newarray .int, 2) := by decide +kernel
theorem dX12_init_90 : decode cX12_init 90 = .ok (.putfield 57, 3) := by decide +kernel
theorem dX12_init_93 : decode cX12_init 93 = .ok (.aload_n 0, 1) := by decide +kernel
theorem dX12_init_94 : decode cX12_init 94 = .ok (.bipush 16, 2) := by decide +kernel
theorem dX12_init_96 : decode cX12_init 96 = .ok (.newarray .int, 2) := by decide +kernel
theorem dX12_init_98 : decode cX12_init 98 = .ok (.putfield 60, 3) := by decide +kernel
theorem dX12_init_101 : decode cX12_init 101 = .ok (.aload_n 0, 1) := by decide +kernel
theorem dX12_init_102 : decode cX12_init 102 = .ok (.iconst 2, 1) := by decide +kernel
theorem dX12_init_103 : decode cX12_init 103 = .ok (.newarray .int, 2) := by decide +kernel
theorem dX12_init_105 : decode cX12_init 105 = .ok (.putfield 63, 3) := by decide +kernel
theorem dX12_init_108 : decode cX12_init 108 = .ok (.aload_n 0, 1) := by decide +kernel
theorem dX12_init_109 : decode cX12_init 109 = .ok (.bipush 6, 2) := by decide +kernel
theorem dX12_init_111 : decode cX12_init 111 = .ok (.newarray .int, 2) := by decide +kernel
theorem dX12_init_113 : decode cX12_init 113 = .ok (.putfield 66, 3) := by decide +kernel
theorem dX12_init_116 : decode cX12_init 116 = .ok (.aload_n 0, 1) := by decide +kernel
theorem dX12_init_117 : decode cX12_init 117 = .ok (.iconst 2, 1) := by decide +kernel
theorem dX12_init_118 : decode cX12_init 118 = .ok (.newarray .int, 2) := by decide +kernel
theorem dX12_init_120 : decode cX12_init 120 = .ok (.putfield 69, 3) := by decide +kernel
theorem dX12_init_123 : decode cX12_init 123 = .ok (.aload_n 0, 1) := by decide +kernel
theorem dX12_init_124 : decode cX12_init 124 = .ok (.iconst 2, 1) := by decide +kernel
theorem dX12_init_125 : decode cX12_init 125 = .ok (.newarray .int, 2) := by decide +kernel
theorem dX12_init_127 : decode cX12_init 127 = .ok (.putfield 72, 3) := by decide +kernel
theorem dX12_init_130 : decode cX12_init 130 = .ok (.aload_n 0, 1) := by decide +kernel
theorem dX12_init_131 : decode cX12_init 131 = .ok (.iconst 2, 1) := by decide +kernel
theorem dX12_init_132 : decode cX12_init 132 = .ok (.newarray .int, 2) := by decide +kernel
theorem dX12_init_134 : decode cX12_init 134 = .ok (.putfield 75, 3) := by decide +kernel
theorem dX12_init_137 : decode cX12_init 137 = .ok (.aload_n 0, 1) := by decide +kernel
theorem dX12_init_138 : decode cX12_init 138 = .ok (.bipush 8, 2) := by decide +kernel
theorem dX12_init_140 : decode cX12_init 140 = .ok (.newarray .int, 2) := by decide +kernel
theorem dX12_init_142 : decode cX12_init 142 = .ok (.putfield 78, 3) := by decide +kernel
theorem dX12_init_145 : decode cX12_init 145 = .ok (.aload_n 0, 1) := by decide +kernel
theorem dX12_init_146 : decode cX12_init 146 = .ok (.bipush 8, 2) := by decide +kernel
theorem dX12_init_148 : decode cX12_init 148 = .ok (.newarray .int, 2) := by decide +kernel
theorem dX12_init_150 : decode cX12_init 150 = .ok (.putfield 81, 3) := by decide +kernel
theorem dX12_init_153 : decode cX12_init 153 = .ok (.aload_n 0, 1) := by decide +kernel
theorem dX12_init_154 : decode cX12_init 154 = .ok (.sipush 3200, 3) := by decide +kernel
theorem dX12_init_157 : decode cX12_init 157 = .ok (.newarray .int, 2) := by decide +kernel
theorem dX12_init_159 : decode cX12_init 159 = .ok (.putfield 84, 3) := by decide +kernel
theorem dX12_init_162 : decode cX12_init 162 = .ok (.aload_n 0, 1) := by decide +kernel
theorem dX12_init_163 : decode cX12_init 163 = .ok (.sipush 3200, 3) := by decide +kernel
theorem dX12_init_166 : decode cX12_init 166 = .ok (.newarray .int, 2) := by decide +kernel
theorem dX12_init_168 : decode cX12_init 168 = .ok (.putfield 87, 3) := by decide +kernel
theorem dX12_init_171 : decode cX12_init 171 = .ok (.aload_n 0, 1) := by decide +kernel
theorem dX12_init_172 : decode cX12_init 172 = .ok (.bipush 16, 2) := by decide +kernel
theorem dX12_init_174 : decode cX12_init 174 = .ok (.newarray .long, 2) := by decide +kernel
theorem dX12_init_176 : decode cX12_init 176 = .ok (.putfield 90, 3) := by decide +kernel
theorem dX12_init_179 : decode cX12_init 179 = .ok (.aload_n 0, 1) := by decide +kernel
theorem dX12_init_180 : decode cX12_init 180 = .ok (.bipush 6, 2) := by decide +kernel
theorem dX12_init_182 : decode cX12_init 182 = .ok (.newarray .long, 2) := by decide +kernel
theorem dX12_init_184 : decode cX12_init 184 = .ok (.putfield 94, 3) := by decide +kernel
theorem dX12_init_187 : decode cX12_init 187 = .ok (.aload_n 0, 1) := by decide +kernel
theorem dX12_init_188 : decode cX12_init 188 = .ok (.iconst 0, 1) := by decide +kernel
theorem dX12_init_189 : decode cX12_init 189 = .ok (.putfield 97, 3) := by decide +kernel
theorem dX12_init_192 : decode cX12_init 192 = .ok (.aload_n 0, 1) := by decide +kernel
theorem dX12_init_193 : decode cX12_init 193 = .ok (.iconst 1, 1) := by decide +kernel
theorem dX12_init_194 : decode cX12_init 194 = .ok (.putfield 100, 3) := by decide +kernel
theorem dX12_init_197 : decode cX12_init 197 = .ok (.aload_n 0, 1) := by decide +kernel
theorem dX12_init_198 : decode cX12_init 198 = .ok (.iconst 0, 1) := by decide +kernel
theorem dX12_init_199 : decode cX12_init 199 = .ok (.putfield 103, 3) := by decide +kernel
theorem dX12_init_202 : decode cX12_init 202 = .ok (.aload_n 0, 1) := by decide +kernel
theorem dX12_init_203 : decode cX12_init 203 = .ok (.bipush 20, 2) := by decide +kernel
theorem dX12_init_205 : decode cX12_init 205 = .ok (.newarray .int, 2) := by decide +kernel
theorem dX12_init_207 : decode cX12_init 207 = .ok (.putfield 106, 3) := by decide +kernel
theorem dX12_init_210 : decode cX12_init 210 = .ok (.aload_n 0, 1) := by decide +kernel
theorem dX12_init_211 : decode cX12_init 211 = .ok (.bipush 20, 2) := by decide +kernel
theorem dX12_init_213 : decode cX12_init 213 = .ok (.newarray .int, 2) := by decide +kernel
theorem dX12_init_215 : decode cX12_init 215 = .ok (.putfield 109, 3) := by decide +kernel
theorem dX12_init_218 : decode cX12_init 218 = .ok (.aload_n 0, 1) := by decide +kernel
theorem dX12_init_219 : decode cX12_init 219 = .ok (.bipush 20, 2) := by decide +kernel
theorem dX12_init_221 : decode cX12_init 221 = .ok (.newarray .boolean, 2) := by decide +kernel
theorem dX12_init_223 : decode cX12_init 223 = .ok (.putfield 112, 3) := by decide +kernel
theorem dX12_init_226 : decode cX12_init 226 = .ok (.aload_n 0, 1) := by decide +kernel
theorem dX12_init_227 : decode cX12_init 227 = .ok (.bipush 20, 2) := by decide +kernel
theorem dX12_init_229 : decode cX12_init 229 = .ok (.newarray .int, 2) := by decide +kernel
theorem dX12_init_231 : decode cX12_init 231 = .ok (.putfield 116, 3) := by decide +kernel
theorem dX12_init_234 : decode cX12_init 234 = .ok (.aload_n 0, 1) := by decide +kernel
theorem dX12_init_235 : decode cX12_init 235 = .ok (.bipush 20, 2) := by decide +kernel
theorem dX12_init_237 : decode cX12_init 237 = .ok (.newarray .int, 2) := by decide +kernel
theorem dX12_init_239 : decode cX12_init 239 = .ok (.putfield 119, 3) := by decide +kernel
theorem dX12_init_242 : decode cX12_init 242 = .ok (.aload_n 0, 1) := by decide +kernel
theorem dX12_init_243 : decode cX12_init 243 = .ok (.iconst 0, 1) := by decide +kernel
theorem dX12_init_244 : decode cX12_init 244 = .ok (.putfield 122, 3) := by decide +kernel
theorem dX12_init_247 : decode cX12_init 247 = .ok (.aload_n 0, 1) := by decide +kernel
theorem dX12_init_248 : decode cX12_init 248 = .ok (.iconst 0, 1) := by decide +kernel
theorem dX12_init_249 : decode cX12_init 249 = .ok (.putfield 125, 3) := by decide +kernel
theorem dX12_init_252 : decode cX12_init 252 = .ok (.aload_n 0, 1) := by decide +kernel
theorem dX12_init_253 : decode cX12_init 253 = .ok (.sipush 500, 3) := by decide +kernel
theorem dX12_init_256 : decode cX12_init 256 = .ok (.newarray .int, 2) := by decide +kernel
theorem dX12_init_258 : decode cX12_init 258 = .ok (.putfield 128, 3) := by decide +kernel
theorem dX12_init_261 : decode cX12_init 261 = .ok (.aload_n 0, 1) := by decide +kernel
theorem dX12_init_262 : decode cX12_init 262 = .ok (.iconst 0, 1) := by decide +kernel
theorem dX12_init_263 : decode cX12_init 263 = .ok (.putfield 131, 3) := by decide +kernel
theorem dX12_init_266 : decode cX12_init 266 = .ok (.aload_n 0, 1) := by decide +kernel
theorem dX12_init_267 : decode cX12_init 267 = .ok (.iconst 0, 1) := by decide +kernel
theorem dX12_init_268 : decode cX12_init 268 = .ok (.putfield 134, 3) := by decide +kernel
theorem dX12_init_271 : decode cX12_init 271 = .ok (.aload_n 0, 1) := by decide +kernel
theorem dX12_init_272 : decode cX12_init 272 = .ok (.bipush 6, 2) := by decide +kernel
theorem dX12_init_274 : decode cX12_init 274 = .ok (.newarray .int, 2) := by decide +kernel
theorem dX12_init_276 : decode cX12_init 276 = .ok (.putfield 138, 3) := by decide +kernel
theorem dX12_init_279 : decode cX12_init 279 = .ok (.aload_n 0, 1) := by decide +kernel
theorem dX12_init_280 : decode cX12_init 280 = .ok (.bipush 22, 2) := by decide +kernel
theorem dX12_init_282 : decode cX12_init 282 = .ok (.newarray .int, 2) := by decide +kernel
theorem dX12_init_284 : decode cX12_init 284 = .ok (.putfield 141, 3) := by decide +kernel
theorem dX12_init_287 : decode cX12_init 287 = .ok (.aload_n 0, 1) := by decide +kernel
theorem dX12_init_288 : decode cX12_init 288 = .ok (.bipush 22, 2) := by decide +kernel
theorem dX12_init_290 : decode cX12_init 290 = .ok (.newarray .int, 2) := by decide +kernel
theorem dX12_init_292 : decode cX12_init 292 = .ok (.putfield 144, 3) := by decide +kernel
theorem dX12_init_295 : decode cX12_init 295 = .ok (.aload_n 0, 1) := by decide +kernel
theorem dX12_init_296 : decode cX12_init 296 = .ok (.sipush 176, 3) := by decide +kernel
theorem dX12_init_299 : decode cX12_init 299 = .ok (.newarray .int, 2) := by decide +kernel
theorem dX12_init_301 : decode cX12_init 301 = .ok (.putfield 147, 3) := by decide +kernel
theorem dX12_init_304 : decode cX12_init 304 = .ok (.aload_n 0, 1) := by decide +kernel
theorem dX12_init_305 : decode cX12_init 305 = .ok (.sipush 176, 3) := by decide +kernel
theorem dX12_init_308 : decode cX12_init 308 = .ok (.newarray .int, 2) := by decide +kernel
theorem dX12_init_310 : decode cX12_init 310 = .ok (.putfield 150, 3) := by decide +kernel
theorem dX12_init_313 : decode cX12_init 313 = .ok (.aload_n 0, 1) := by decide +kernel
theorem dX12_init_314 : decode cX12_init 314 = .ok (.sipush 176, 3) := by decide +kernel
theorem dX12_init_317 : decode cX12_init 317 = .ok (.newarray .int, 2) := by decide +kernel
theorem dX12_init_319 : decode cX12_init 319 = .ok (.putfield 153, 3) := by decide +kernel
theorem dX12_init_322 : decode cX12_init 322 = .ok (.aload_n 0, 1) := by decide +kernel
theorem dX12_init_323 : decode cX12_init 323 = .ok (.sipush 176, 3) := by decide +kernel
theorem dX12_init_326 : decode cX12_init 326 = .ok (.newarray .int, 2) := by decide +kernel
theorem dX12_init_328 : decode cX12_init 328 = .ok (.putfield 156, 3) := by decide +kernel
theorem dX12_init_331 : decode cX12_init 331 = .ok (.aload_n 0, 1) := by decide +kernel
theorem dX12_init_332 : decode cX12_init 332 = .ok (.bipush 22, 2) := by decide +kernel
theorem dX12_init_334 : decode cX12_init 334 = .ok (.newarray .int, 2) := by decide +kernel
theorem dX12_init_336 : decode cX12_init 336 = .ok (.putfield 159, 3) := by decide +kernel
theorem dX12_init_339 : decode cX12_init 339 = .ok (.aload_n 0, 1) := by decide +kernel
theorem dX12_init_340 : decode cX12_init 340 = .ok (.bipush 66, 2) := by decide +kernel
theorem dX12_init_342 : decode cX12_init 342 = .ok (.newarray .int, 2) := by decide +kernel
theorem dX12_init_344 : decode cX12_init 344 = .ok (.putfield 162, 3) := by decide +kernel
theorem dX12_init_347 : decode cX12_init 347 = .ok (.aload_n 0, 1) := by decide +kernel
theorem dX12_init_348 : decode cX12_init 348 = .ok (.bipush 22, 2) := by decide +kernel
theorem dX12_init_350 : decode cX12_init 350 = .ok (.newarray .int, 2) := by decide +kernel
theorem dX12_init_352 : decode cX12_init 352 = .ok (.putfield 165, 3) := by decide +kernel
theorem dX12_init_355 : decode cX12_init 355 = .ok (.aload_n 0, 1) := by decide +kernel
theorem dX12_init_356 : decode cX12_init 356 = .ok (.sipush 3520, 3) := by decide +kernel
theorem dX12_init_359 : decode cX12_init 359 = .ok (.newarray .int, 2) := by decide +kernel
theorem dX12_init_361 : decode cX12_init 361 = .ok (.putfield 168, 3) := by decide +kernel
theorem dX12_init_364 : decode cX12_init 364 = .ok (.aload_n 0, 1) := by decide +kernel
theorem dX12_init_365 : decode cX12_init 365 = .ok (.iconst 0, 1) := by decide +kernel
theorem dX12_init_366 : decode cX12_init 366 = .ok (.putfield 171, 3) := by decide +kernel
theorem dX12_init_369 : decode cX12_init 369 = .ok (.aload_n 0, 1) := by decide +kernel
theorem dX12_init_370 : decode cX12_init 370 = .ok (.iconst 0, 1) := by decide +kernel
theorem dX12_init_371 : decode cX12_init 371 = .ok (.putfield 174, 3) := by decide +kernel
theorem dX12_init_374 : decode cX12_init 374 = .ok (.aload_n 0, 1) := by decide +kernel
theorem dX12_init_375 : decode cX12_init 375 = .ok (.lconst 1, 1) := by decide +kernel
theorem dX12_init_376 : decode cX12_init 376 = .ok (.putfield 177, 3) := by decide +kernel
theorem dX12_init_379 : decode cX12_init 379 = .ok (.aload_n 0, 1) := by decide +kernel
theorem dX12_init_380 : decode cX12_init 380 = .ok (.sipush 500, 3) := by decide +kernel
theorem dX12_init_383 : decode cX12_init 383 = .ok (.newarray .long, 2) := by decide +kernel
theorem dX12_init_385 : decode cX12_init 385 = .ok (.putfield 180, 3) := by decide +kernel
theorem dX12_init_388 : decode cX12_init 388 = .ok (.aload_n 0, 1) := by decide +kernel
theorem dX12_init_389 : decode cX12_init 389 = .ok (.bipush 14, 2) := by decide +kernel
theorem dX12_init_391 : decode cX12_init 391 = .ok (.newarray .int, 2) := by decide +kernel
theorem dX12_init_393 : decode cX12_init 393 = .ok (.putfield 183, 3) := by decide +kernel
theorem dX12_init_396 : decode cX12_init 396 = .ok (.aload_n 0, 1) := by decide +kernel
theorem dX12_init_397 : decode cX12_init 397 = .ok (.iconst 0, 1) := by decide +kernel
theorem dX12_init_398 : decode cX12_init 398 = .ok (.putfield 186, 3) := by decide +kernel
theorem dX12_init_401 : decode cX12_init 401 = .ok (.aload_n 0, 1) := by decide +kernel
theorem dX12_init_402 : decode cX12_init 402 = .ok (.bipush 7, 2) := by decide +kernel
theorem dX12_init_404 : decode cX12_init 404 = .ok (.newarray .int, 2) := by decide +kernel
theorem dX12_init_406 : decode cX12_init 406 = .ok (.putfield 189, 3) := by decide +kernel
theorem dX12_init_409 : decode cX12_init 409 = .ok (.aload_n 0, 1) := by decide +kernel
theorem dX12_init_410 : decode cX12_init 410 = .ok (.bipush 6, 2) := by decide +kernel
theorem dX12_init_412 : decode cX12_init 412 = .ok (.newarray .int, 2) := by decide +kernel
theorem dX12_init_414 : decode cX12_init 414 = .ok (.putfield 192, 3) := by decide +kernel
theorem dX12_init_417 : decode cX12_init 417 = .ok (.aload_n 0, 1) := by decide +kernel
theorem dX12_init_418 : decode cX12_init 418 = .ok (.iconst 0, 1) := by decide +kernel
theorem dX12_init_419 : decode cX12_init 419 = .ok (.putfield 195, 3) := by decide +kernel
theorem dX12_init_422 : decode cX12_init 422 = .ok (.aload_n 0, 1) := by decide +kernel
theorem dX12_init_423 : decode cX12_init 423 = .ok (.bipush 16, 2) := by decide +kernel
theorem dX12_init_425 : decode cX12_init 425 = .ok (.newarray .int, 2) := by decide +kernel
theorem dX12_init_427 : decode cX12_init 427 = .ok (.putfield 198, 3) := by decide +kernel
theorem dX12_init_430 : decode cX12_init 430 = .ok (.aload_n 0, 1) := by decide +kernel
theorem dX12_init_431 : decode cX12_init 431 = .ok (.bipush 16, 2) := by decide +kernel
theorem dX12_init_433 : decode cX12_init 433 = .ok (.newarray .int, 2) := by decide +kernel
theorem dX12_init_435 : decode cX12_init 435 = .ok (.putfield 201, 3) := by decide +kernel
theorem dX12_init_438 : decode cX12_init 438 = .ok (.aload_n 0, 1) := by decide +kernel
theorem dX12_init_439 : decode cX12_init 439 = .ok (.bipush 16, 2) := by decide +kernel
theorem dX12_init_441 : decode cX12_init 441 = .ok (.newarray .int, 2) := by decide +kernel
theorem dX12_init_443 : decode cX12_init 443 = .ok (.putfield 204, 3) := by decide +kernel
theorem dX12_init_446 : decode cX12_init 446 = .ok (.aload_n 0, 1) := by decide +kernel
theorem dX12_init_447 : decode cX12_init 447 = .ok (.bipush 100, 2) := by decide +kernel
theorem dX12_init_449 : decode cX12_init 449 = .ok (.newarray .int, 2) := by decide +kernel
theorem dX12_init_451 : decode cX12_init 451 = .ok (.putfield 207, 3) := by decide +kernel
theorem dX12_init_454 : decode cX12_init 454 = .ok (.aload_n 0, 1) := by decide +kernel
theorem dX12_init_455 : decode cX12_init 455 = .ok (.bipush 60, 2) := by decide +kernel
theorem dX12_init_457 : decode cX12_init 457 = .ok (.newarray .int, 2) := by decide +kernel
theorem dX12_init_459 : decode cX12_init 459 = .ok (.putfield 210, 3) := by decide +kernel
theorem dX12_init_462 : decode cX12_init 462 = .ok (.aload_n 0, 1) := by decide +kernel
theorem dX12_init_463 : decode cX12_init 463 = .ok (.iconst 0, 1) := by decide +kernel
theorem dX12_init_464 : decode cX12_init 464 = .ok (.putfield 213, 3) := by decide +kernel
theorem dX12_init_467 : decode cX12_init 467 = .ok (.iconst 0, 1) := by decide +kernel
theorem dX12_init_468 : decode cX12_init 468 = .ok (.istore_n 1, 1) := by decide +kernel
theorem dX12_init_469 : decode cX12_init 469 = .ok (.iload_n 1, 1) := by decide +kernel
theorem dX12_init_470 : decode cX12_init 470 = .ok (.bipush 8, 2) := by decide +kernel
theorem dX12_init_472 : decode cX12_init 472 = .ok (.if_icmp .ge 16, 3) := by decide +kernel
theorem dX12_init_475 : decode cX12_init 475 = .ok (.aload_n 0, 1) := by decide +kernel
theorem dX12_init_476 : decode cX12_init 476 = .ok (.getfield 78, 3) := by decide +kernel
theorem dX12_init_479 : decode cX12_init 479 = .ok (.iload_n 1, 1) := by decide +kernel
theorem dX12_init_480 : decode cX12_init 480 = .ok (.iconst (-1), 1) := by decide +kernel
theorem dX12_init_481 : decode cX12_init 481 = .ok (.iastore, 1) := by decide +kernel
theorem dX12_init_482 : decode cX12_init 482 = .ok (.iinc 1 1, 3) := by decide +kernel
theorem dX12_init_485 : decode cX12_init 485 = .ok (.goto (-16), 3) := by decide +kernel
theorem dX12_init_488 : decode cX12_init 488 = .ok (.iconst 0, 1) := by decide +kernel
theorem dX12_init_489 : decode cX12_init 489 = .ok (.istore_n 1, 1) := by decide +kernel
theorem dX12_init_490 : decode cX12_init 490 = .ok (.iload_n 1, 1) := by decide +kernel
theorem dX12_init_491 : decode cX12_init 491 = .ok (.iconst 3, 1) := by decide +kernel
theorem dX12_init_492 : decode cX12_init 492 = .ok (.if_icmp .ge 16, 3) := by decide +kernel
theorem dX12_init_495 : decode cX12_init 495 = .ok (.aload_n 0, 1) := by decide +kernel
theorem dX12_init_496 : decode cX12_init 496 = .ok (.getfield 162, 3) := by decide +kernel
theorem dX12_init_499 : decode cX12_init 499 = .ok (.iload_n 1, 1) := by decide +kernel
theorem dX12_init_500 : decode cX12_init 500 = .ok (.iconst (-1), 1) := by decide +kernel
theorem dX12_init_501 : decode cX12_init 501 = .ok (.iastore, 1) := by decide +kernel
theorem dX12_init_502 : decode cX12_init 502 = .ok (.iinc 1 1, 3) := by decide +kernel
theorem dX12_init_505 : decode cX12_init 505 = .ok (.goto (-15), 3) := by decide +kernel
theorem dX12_init_508 : decode cX12_init 508 = .ok (.return_, 1) := by decide +kernel
theorem dX12_is_0 : decode cX12_is 0 = .ok (.iload_n 0, 1) := by decide +kernel
theorem dX12_is_1 : decode cX12_is 1 = .ok (.iload_n 1, 1) := by decide +kernel
theorem dX12_is_2 : decode cX12_is 2 = .ok (.if_icmp .lt 12, 3) := by decide +kernel
theorem dX12_is_5 : decode cX12_is 5 = .ok (.iload_n 0, 1) := by decide +kernel
theorem dX12_is_6 : decode cX12_is 6 = .ok (.iload_n 2, 1) := by decide +kernel
theorem dX12_is_7 : decode cX12_is 7 = .ok (.if_icmp .gt 7, 3) := by decide +kernel
theorem dX12_is_10 : decode cX12_is 10 = .ok (.iconst 1, 1) := by decide +kernel
theorem dX12_is_11 : decode cX12_is 11 = .ok (.goto 4, 3) := by decide +kernel
theorem dX12_is_14 : decode cX12_is 14 = .ok (.iconst 0, 1) := by decide +kernel
theorem dX12_is_15 : decode cX12_is 15 = .ok (.ireturn, 1) := by decide +kernel
theorem dX12_put_0 : decode cX12_put 0 = .ok (.bipush 24, 2) := by decide +kernel
theorem dX12_put_2 : decode cX12_put 2 = .ok (.istore_n 2, 1) := by decide +kernel
theorem dX12_put_3 : decode cX12_put 3 = .ok (.iload_n 2, 1) := by decide +kernel
theorem dX12_put_4 : decode cX12_put 4 = .ok (.ifCond .lt 35, 3) := by decide +kernel
theorem dX12_put_7 : decode cX12_put 7 = .ok (.aload_n 0, 1) := by decide +kernel
theorem dX12_put_8 : decode cX12_put 8 = .ok (.getfield 7, 3) := by decide +kernel
theorem dX12_put_11 : decode cX12_put 11 = .ok (.aload_n 0, 1) := by decide +kernel
theorem dX12_put_12 : decode cX12_put 12 = .ok (.getfield 13, 3) := by decide +kernel
theorem dX12_put_15 : decode cX12_put 15 = .ok (.iload_n 1, 1) := by decide +kernel
theorem dX12_put_16 : decode cX12_put 16 = .ok (.iload_n 2, 1) := by decide +kernel
theorem dX12_put_17 : decode cX12_put 17 = .ok (.ishr, 1) := by decide +kernel
theorem dX12_put_18 : decode cX12_put 18 = .ok (.sipush 255, 3) := by decide +kernel
theorem dX12_put_21 : decode cX12_put 21 = .ok (.iand, 1) := by decide +kernel
theorem dX12_put_22 : decode cX12_put 22 = .ok (.iastore, 1) := by decide +kernel
theorem dX12_put_23 : decode cX12_put 23 = .ok (.aload_n 0, 1) := by decide +kernel
theorem dX12_put_24 : decode cX12_put 24 = .ok (.dup, 1) := by decide +kernel
theorem dX12_put_25 : decode cX12_put 25 = .ok (.getfield 13, 3) := by decide +kernel
theorem dX12_put_28 : decode cX12_put 28 = .ok (.iconst 1, 1) := by decide +kernel
theorem dX12_put_29 : decode cX12_put 29 = .ok (.iadd, 1) := by decide +kernel
theorem dX12_put_30 : decode cX12_put 30 = .ok (.putfield 13, 3) := by decide +kernel
theorem dX12_put_33 : decode cX12_put 33 = .ok (.iinc 2 (-8), 3) := by decide +kernel
theorem dX12_put_36 : decode cX12_put 36 = .ok (.goto (-33), 3) := by decide +kernel
theorem dX12_put_39 : decode cX12_put 39 = .ok (.return_, 1) := by decide +kernel
theorem dX12_feed_0 : decode cX12_feed 0 = .ok (.aload_n 0, 1) := by decide +kernel
theorem dX12_feed_1 : decode cX12_feed 1 = .ok (.getfield 13, 3) := by decide +kernel
theorem dX12_feed_4 : decode cX12_feed 4 = .ok (.bipush 20, 2) := by decide +kernel
theorem dX12_feed_6 : decode cX12_feed 6 = .ok (.iadd, 1) := by decide +kernel
theorem dX12_feed_7 : decode cX12_feed 7 = .ok (.sipush 1600, 3) := by decide +kernel
theorem dX12_feed_10 : decode cX12_feed 10 = .ok (.if_icmp .le 9, 3) := by decide +kernel
theorem dX12_feed_13 : decode cX12_feed 13 = .ok (.aload_n 0, 1) := by decide +kernel
theorem dX12_feed_14 : decode cX12_feed 14 = .ok (.iconst 0, 1) := by decide +kernel
theorem dX12_feed_15 : decode cX12_feed 15 = .ok (.invokevirtual 216, 3) := by decide +kernel
theorem dX12_feed_18 : decode cX12_feed 18 = .ok (.ireturn, 1) := by decide +kernel
theorem dX12_feed_19 : decode cX12_feed 19 = .ok (.aload_n 0, 1) := by decide +kernel
theorem dX12_feed_20 : decode cX12_feed 20 = .ok (.iload_n 1, 1) := by decide +kernel
theorem dX12_feed_21 : decode cX12_feed 21 = .ok (.invokevirtual 220, 3) := by decide +kernel
theorem dX12_feed_24 : decode cX12_feed 24 = .ok (.aload_n 0, 1) := by decide +kernel
theorem dX12_feed_25 : decode cX12_feed 25 = .ok (.iload_n 2, 1) := by decide +kernel
theorem dX12_feed_26 : decode cX12_feed 26 = .ok (.invokevirtual 220, 3) := by decide +kernel
theorem dX12_feed_29 : decode cX12_feed 29 = .ok (.aload_n 0, 1) := by decide +kernel
theorem dX12_feed_30 : decode cX12_feed 30 = .ok (.iload_n 3, 1) := by decide +kernel
theorem dX12_feed_31 : decode cX12_feed 31 = .ok (.invokevirtual 220, 3) := by decide +kernel
theorem dX12_feed_34 : decode cX12_feed 34 = .ok (.aload_n 0, 1) := by decide +kernel
theorem dX12_feed_35 : decode cX12_feed 35 = .ok (.iload 4, 2) := by decide +kernel
theorem dX12_feed_37 : decode cX12_feed 37 = .ok (.invokevirtual 220, 3) := by decide +kernel
theorem dX12_feed_40 : decode cX12_feed 40 = .ok (.aload_n 0, 1) := by decide +kernel
theorem dX12_feed_41 : decode cX12_feed 41 = .ok (.iload 5, 2) := by decide +kernel
theorem dX12_feed_43 : decode cX12_feed 43 = .ok (.invokevirtual 220, 3) := by decide +kernel
theorem dX12_feed_46 : decode cX12_feed 46 = .ok (.aload_n 0, 1) := by decide +kernel
theorem dX12_feed_47 : decode cX12_feed 47 = .ok (.getfield 13, 3) := by decide +kernel
theorem dX12_feed_50 : decode cX12_feed 50 = .ok (.ireturn, 1) := by decide +kernel
theorem dX12_end_0 : decode cX12_end 0 = .ok (.iload_n 1, 1) := by decide +kernel
theorem dX12_end_1 : decode cX12_end 1 = .ok (.ifCond .lt 11, 3) := by decide +kernel
theorem dX12_end_4 : decode cX12_end 4 = .ok (.iload_n 1, 1) := by decide +kernel
theorem dX12_end_5 : decode cX12_end 5 = .ok (.aload_n 0, 1) := by decide +kernel
theorem dX12_end_6 : decode cX12_end 6 = .ok (.getfield 13, 3) := by decide +kernel
theorem dX12_end_9 : decode cX12_end 9 = .ok (.if_icmp .le 17, 3) := by decide +kernel
theorem dX12_end_12 : decode cX12_end 12 = .ok (.aload_n 0, 1) := by decide +kernel
theorem dX12_end_13 : decode cX12_end 13 = .ok (.iconst 0, 1) := by decide +kernel
theorem dX12_end_14 : decode cX12_end 14 = .ok (.invokevirtual 216, 3) := by decide +kernel
theorem dX12_end_17 : decode cX12_end 17 = .ok (.ifCond .lt 7, 3) := by decide +kernel
theorem dX12_end_20 : decode cX12_end 20 = .ok (.iconst 1, 1) := by decide +kernel
theorem dX12_end_21 : decode cX12_end 21 = .ok (.goto 4, 3) := by decide +kernel
theorem dX12_end_24 : decode cX12_end 24 = .ok (.iconst 0, 1) := by decide +kernel
theorem dX12_end_25 : decode cX12_end 25 = .ok (.ireturn, 1) := by decide +kernel
theorem dX12_end_26 : decode cX12_end 26 = .ok (.aload_n 0, 1) := by decide +kernel
theorem dX12_end_27 : decode cX12_end 27 = .ok (.iload_n 1, 1) := by decide +kernel
theorem dX12_end_28 : decode cX12_end 28 = .ok (.putfield 13, 3) := by decide +kernel
theorem dX12_end_31 : decode cX12_end 31 = .ok (.iconst 1, 1) := by decide +kernel
theorem dX12_end_32 : decode cX12_end 32 = .ok (.ireturn, 1) := by decide +kernel
theorem dX12_blame_0 : decode cX12_blame 0 = .ok (.aload_n 0, 1) := by decide +kernel
theorem dX12_blame_1 : decode cX12_blame 1 = .ok (.getfield 36, 3) := by decide +kernel
theorem dX12_blame_4 : decode cX12_blame 4 = .ok (.ifCond .le 4, 3) := by decide +kernel
theorem dX12_blame_7 : decode cX12_blame 7 = .ok (.return_, 1) := by decide +kernel
theorem dX12_blame_8 : decode cX12_blame 8 = .ok (.aload_n 0, 1) := by decide +kernel
theorem dX12_blame_9 : decode cX12_blame 9 = .ok (.iload_n 1, 1) := by decide +kernel
theorem dX12_blame_10 : decode cX12_blame 10 = .ok (.putfield 36, 3) := by decide +kernel
theorem dX12_blame_13 : decode cX12_blame 13 = .ok (.aload_n 0, 1) := by decide +kernel
theorem dX12_blame_14 : decode cX12_blame 14 = .ok (.iload_n 2, 1) := by decide +kernel
theorem dX12_blame_15 : decode cX12_blame 15 = .ok (.putfield 39, 3) := by decide +kernel
theorem dX12_blame_18 : decode cX12_blame 18 = .ok (.return_, 1) := by decide +kernel
theorem dX12_isLetter_0 : decode cX12_isLetter 0 = .ok (.iload_n 0, 1) := by decide +kernel
theorem dX12_isLetter_1 : decode cX12_isLetter 1 = .ok (.bipush 97, 2) := by decide +kernel
theorem dX12_isLetter_3 : decode cX12_isLetter 3 = .ok (.if_icmp .lt 13, 3) := by decide +kernel
theorem dX12_isLetter_6 : decode cX12_isLetter 6 = .ok (.iload_n 0, 1) := by decide +kernel
theorem dX12_isLetter_7 : decode cX12_isLetter 7 = .ok (.bipush 122, 2) := by decide +kernel
theorem dX12_isLetter_9 : decode cX12_isLetter 9 = .ok (.if_icmp .gt 7, 3) := by decide +kernel
theorem dX12_isLetter_12 : decode cX12_isLetter 12 = .ok (.iconst 1, 1) := by decide +kernel
theorem dX12_isLetter_13 : decode cX12_isLetter 13 = .ok (.goto 4, 3) := by decide +kernel
theorem dX12_isLetter_16 : decode cX12_isLetter 16 = .ok (.iconst 0, 1) := by decide +kernel
theorem dX12_isLetter_17 : decode cX12_isLetter 17 = .ok (.ireturn, 1) := by decide +kernel
theorem dX12_isDigit_0 : decode cX12_isDigit 0 = .ok (.iload_n 0, 1) := by decide +kernel
theorem dX12_isDigit_1 : decode cX12_isDigit 1 = .ok (.bipush 48, 2) := by decide +kernel
theorem dX12_isDigit_3 : decode cX12_isDigit 3 = .ok (.if_icmp .lt 13, 3) := by decide +kernel
theorem dX12_isDigit_6 : decode cX12_isDigit 6 = .ok (.iload_n 0, 1) := by decide +kernel
theorem dX12_isDigit_7 : decode cX12_isDigit 7 = .ok (.bipush 57, 2) := by decide +kernel
theorem dX12_isDigit_9 : decode cX12_isDigit 9 = .ok (.if_icmp .gt 7, 3) := by decide +kernel
theorem dX12_isDigit_12 : decode cX12_isDigit 12 = .ok (.iconst 1, 1) := by decide +kernel
theorem dX12_isDigit_13 : decode cX12_isDigit 13 = .ok (.goto 4, 3) := by decide +kernel
theorem dX12_isDigit_16 : decode cX12_isDigit 16 = .ok (.iconst 0, 1) := by decide +kernel
theorem dX12_isDigit_17 : decode cX12_isDigit 17 = .ok (.ireturn, 1) := by decide +kernel
theorem dX12_lex_0 : decode cX12_lex 0 = .ok (.aload_n 0, 1) := by decide +kernel
theorem dX12_lex_1 : decode cX12_lex 1 = .ok (.getfield 48, 3) := by decide +kernel
theorem dX12_lex_4 : decode cX12_lex 4 = .ok (.iconst (-1), 1) := by decide +kernel
theorem dX12_lex_5 : decode cX12_lex 5 = .ok (.if_icmp .eq 12, 3) := by decide +kernel
theorem dX12_lex_8 : decode cX12_lex 8 = .ok (.aload_n 0, 1) := by decide +kernel
theorem dX12_lex_9 : decode cX12_lex 9 = .ok (.iconst 1, 1) := by decide +kernel
theorem dX12_lex_10 : decode cX12_lex 10 = .ok (.aload_n 0, 1) := by decide +kernel
theorem dX12_lex_11 : decode cX12_lex 11 = .ok (.getfield 48, 3) := by decide +kernel
theorem dX12_lex_14 : decode cX12_lex 14 = .ok (.invokevirtual 224, 3) := by decide +kernel
theorem dX12_lex_17 : decode cX12_lex 17 = .ok (.return_, 1) := by decide +kernel
theorem dX12_ahead_0 : decode cX12_ahead 0 = .ok (.aload_n 0, 1) := by decide +kernel
theorem dX12_ahead_1 : decode cX12_ahead 1 = .ok (.getfield 26, 3) := by decide +kernel
theorem dX12_ahead_4 : decode cX12_ahead 4 = .ok (.istore_n 1, 1) := by decide +kernel
theorem dX12_ahead_5 : decode cX12_ahead 5 = .ok (.iload_n 1, 1) := by decide +kernel
theorem dX12_ahead_6 : decode cX12_ahead 6 = .ok (.aload_n 0, 1) := by decide +kernel
theorem dX12_ahead_7 : decode cX12_ahead 7 = .ok (.getfield 17, 3) := by decide +kernel
theorem dX12_ahead_10 : decode cX12_ahead 10 = .ok (.if_icmp .ge 31, 3) := by decide +kernel
theorem dX12_ahead_13 : decode cX12_ahead 13 = .ok (.aload_n 0, 1) := by decide +kernel
theorem dX12_ahead_14 : decode cX12_ahead 14 = .ok (.getfield 7, 3) := by decide +kernel
theorem dX12_ahead_17 : decode cX12_ahead 17 = .ok (.iload_n 1, 1) := by decide +kernel
theorem dX12_ahead_18 : decode cX12_ahead 18 = .ok (.iaload, 1) := by decide +kernel
theorem dX12_ahead_19 : decode cX12_ahead 19 = .ok (.bipush 32, 2) := by decide +kernel
theorem dX12_ahead_21 : decode cX12_ahead 21 = .ok (.if_icmp .eq 14, 3) := by decide +kernel
theorem dX12_ahead_24 : decode cX12_ahead 24 = .ok (.aload_n 0, 1) := by decide +kernel
theorem dX12_ahead_25 : decode cX12_ahead 25 = .ok (.getfield 7, 3) := by decide +kernel
theorem dX12_ahead_28 : decode cX12_ahead 28 = .ok (.iload_n 1, 1) := by decide +kernel
theorem dX12_ahead_29 : decode cX12_ahead 29 = .ok (.iaload, 1) := by decide +kernel
theorem dX12_ahead_30 : decode cX12_ahead 30 = .ok (.bipush 10, 2) := by decide +kernel
theorem dX12_ahead_32 : decode cX12_ahead 32 = .ok (.if_icmp .ne 9, 3) := by decide +kernel
theorem dX12_ahead_35 : decode cX12_ahead 35 = .ok (.iinc 1 1, 3) := by decide +kernel
theorem dX12_ahead_38 : decode cX12_ahead 38 = .ok (.goto (-33), 3) := by decide +kernel
theorem dX12_ahead_41 : decode cX12_ahead 41 = .ok (.aload_n 0, 1) := by decide +kernel
theorem dX12_ahead_42 : decode cX12_ahead 42 = .ok (.iload_n 1, 1) := by decide +kernel
theorem dX12_ahead_43 : decode cX12_ahead 43 = .ok (.putfield 23, 3) := by decide +kernel
theorem dX12_ahead_46 : decode cX12_ahead 46 = .ok (.aload_n 0, 1) := by decide +kernel
theorem dX12_ahead_47 : decode cX12_ahead 47 = .ok (.iload_n 1, 1) := by decide +kernel
theorem dX12_ahead_48 : decode cX12_ahead 48 = .ok (.putfield 26, 3) := by decide +kernel
theorem dX12_ahead_51 : decode cX12_ahead 51 = .ok (.aload_n 0, 1) := by decide +kernel
theorem dX12_ahead_52 : decode cX12_ahead 52 = .ok (.iconst 0, 1) := by decide +kernel
theorem dX12_ahead_53 : decode cX12_ahead 53 = .ok (.putfield 20, 3) := by decide +kernel
theorem dX12_ahead_56 : decode cX12_ahead 56 = .ok (.aload_n 0, 1) := by decide +kernel
theorem dX12_ahead_57 : decode cX12_ahead 57 = .ok (.iconst (-1), 1) := by decide +kernel
theorem dX12_ahead_58 : decode cX12_ahead 58 = .ok (.putfield 48, 3) := by decide +kernel
theorem dX12_ahead_61 : decode cX12_ahead 61 = .ok (.iload_n 1, 1) := by decide +kernel
theorem dX12_ahead_62 : decode cX12_ahead 62 = .ok (.aload_n 0, 1) := by decide +kernel
theorem dX12_ahead_63 : decode cX12_ahead 63 = .ok (.getfield 17, 3) := by decide +kernel
theorem dX12_ahead_66 : decode cX12_ahead 66 = .ok (.if_icmp .lt 4, 3) := by decide +kernel
theorem dX12_ahead_69 : decode cX12_ahead 69 = .ok (.return_, 1) := by decide +kernel
theorem dX12_ahead_70 : decode cX12_ahead 70 = .ok (.aload_n 0, 1) := by decide +kernel
theorem dX12_ahead_71 : decode cX12_ahead 71 = .ok (.getfield 7, 3) := by decide +kernel
theorem dX12_ahead_74 : decode cX12_ahead 74 = .ok (.iload_n 1, 1) := by decide +kernel
theorem dX12_ahead_75 : decode cX12_ahead 75 = .ok (.iaload, 1) := by decide +kernel
theorem dX12_ahead_76 : decode cX12_ahead 76 = .ok (.invokestatic 228, 3) := by decide +kernel
theorem dX12_ahead_79 : decode cX12_ahead 79 = .ok (.istore_n 2, 1) := by decide +kernel
theorem dX12_ahead_80 : decode cX12_ahead 80 = .ok (.aload_n 0, 1) := by decide +kernel
theorem dX12_ahead_81 : decode cX12_ahead 81 = .ok (.getfield 7, 3) := by decide +kernel
theorem dX12_ahead_84 : decode cX12_ahead 84 = .ok (.iload_n 1, 1) := by decide +kernel
theorem dX12_ahead_85 : decode cX12_ahead 85 = .ok (.iaload, 1) := by decide +kernel
theorem dX12_ahead_86 : decode cX12_ahead 86 = .ok (.invokestatic 232, 3) := by decide +kernel
theorem dX12_ahead_89 : decode cX12_ahead 89 = .ok (.istore_n 3, 1) := by decide +kernel
theorem dX12_ahead_90 : decode cX12_ahead 90 = .ok (.iload_n 2, 1) := by decide +kernel
theorem dX12_ahead_91 : decode cX12_ahead 91 = .ok (.ifCond .ne 7, 3) := by decide +kernel
theorem dX12_ahead_94 : decode cX12_ahead 94 = .ok (.iload_n 3, 1) := by decide +kernel
theorem dX12_ahead_95 : decode cX12_ahead 95 = .ok (.ifCond .eq 40, 3) := by decide +kernel
theorem dX12_ahead_98 : decode cX12_ahead 98 = .ok (.iload_n 1, 1) := by decide +kernel
theorem dX12_ahead_99 : decode cX12_ahead 99 = .ok (.ifCond .le 36, 3) := by decide +kernel
theorem dX12_ahead_102 : decode cX12_ahead 102 = .ok (.aload_n 0, 1) := by decide +kernel
theorem dX12_ahead_103 : decode cX12_ahead 103 = .ok (.getfield 7, 3) := by decide +kernel
theorem dX12_ahead_106 : decode cX12_ahead 106 = .ok (.iload_n 1, 1) := by decide +kernel
theorem dX12_ahead_107 : decode cX12_ahead 107 = .ok (.iconst 1, 1) := by decide +kernel
theorem dX12_ahead_108 : decode cX12_ahead 108 = .ok (.isub, 1) := by decide +kernel
theorem dX12_ahead_109 : decode cX12_ahead 109 = .ok (.iaload, 1) := by decide +kernel
theorem dX12_ahead_110 : decode cX12_ahead 110 = .ok (.invokestatic 228, 3) := by decide +kernel
theorem dX12_ahead_113 : decode cX12_ahead 113 = .ok (.ifCond .ne 17, 3) := by decide +kernel
theorem dX12_ahead_116 : decode cX12_ahead 116 = .ok (.aload_n 0, 1) := by decide +kernel
theorem dX12_ahead_117 : decode cX12_ahead 117 = .ok (.getfield 7, 3) := by decide +kernel
theorem dX12_ahead_120 : decode cX12_ahead 120 = .ok (.iload_n 1, 1) := by decide +kernel
theorem dX12_ahead_121 : decode cX12_ahead 121 = .ok (.iconst 1, 1) := by decide +kernel
theorem dX12_ahead_122 : decode cX12_ahead 122 = .ok (.isub, 1) := by decide +kernel
theorem dX12_ahead_123 : decode cX12_ahead 123 = .ok (.iaload, 1) := by decide +kernel
theorem dX12_ahead_124 : decode cX12_ahead 124 = .ok (.invokestatic 232, 3) := by decide +kernel
theorem dX12_ahead_127 : decode cX12_ahead 127 = .ok (.ifCond .eq 8, 3) := by decide +kernel
theorem dX12_ahead_130 : decode cX12_ahead 130 = .ok (.aload_n 0, 1) := by decide +kernel
theorem dX12_ahead_131 : decode cX12_ahead 131 = .ok (.iload_n 1, 1) := by decide +kernel
theorem dX12_ahead_132 : decode cX12_ahead 132 = .ok (.putfield 48, 3) := by decide +kernel
theorem dX12_ahead_135 : decode cX12_ahead 135 = .ok (.aload_n 0, 1) := by decide +kernel
theorem dX12_ahead_136 : decode cX12_ahead 136 = .ok (.iconst 0, 1) := by decide +kernel
theorem dX12_ahead_137 : decode cX12_ahead 137 = .ok (.putfield 29, 3) := by decide +kernel
theorem dX12_ahead_140 : decode cX12_ahead 140 = .ok (.aload_n 0, 1) := by decide +kernel
theorem dX12_ahead_141 : decode cX12_ahead 141 = .ok (.lconst 0, 1) := by decide +kernel
theorem dX12_ahead_142 : decode cX12_ahead 142 = .ok (.putfield 32, 3) := by decide +kernel
theorem dX12_ahead_145 : decode cX12_ahead 145 = .ok (.aload_n 0, 1) := by decide +kernel
theorem dX12_ahead_146 : decode cX12_ahead 146 = .ok (.iconst 3, 1) := by decide +kernel
theorem dX12_ahead_147 : decode cX12_ahead 147 = .ok (.putfield 20, 3) := by decide +kernel
theorem dX12_ahead_150 : decode cX12_ahead 150 = .ok (.aload_n 0, 1) := by decide +kernel
theorem dX12_ahead_151 : decode cX12_ahead 151 = .ok (.iload_n 1, 1) := by decide +kernel
theorem dX12_ahead_152 : decode cX12_ahead 152 = .ok (.iconst 1, 1) := by decide +kernel
theorem dX12_ahead_153 : decode cX12_ahead 153 = .ok (.iadd, 1) := by decide +kernel
theorem dX12_ahead_154 : decode cX12_ahead 154 = .ok (.putfield 26, 3) := by decide +kernel
theorem dX12_ahead_157 : decode cX12_ahead 157 = .ok (.iload_n 2, 1) := by decide +kernel
theorem dX12_ahead_158 : decode cX12_ahead 158 = .ok (.ifCond .ne 18, 3) := by decide +kernel
theorem dX12_ahead_161 : decode cX12_ahead 161 = .ok (.iload_n 3, 1) := by decide +kernel
theorem dX12_ahead_162 : decode cX12_ahead 162 = .ok (.ifCond .ne 14, 3) := by decide +kernel
theorem dX12_ahead_165 : decode cX12_ahead 165 = .ok (.aload_n 0, 1) := by decide +kernel
theorem dX12_ahead_166 : decode cX12_ahead 166 = .ok (.aload_n 0, 1) := by decide +kernel
theorem dX12_ahead_167 : decode cX12_ahead 167 = .ok (.getfield 7, 3) := by decide +kernel
theorem dX12_ahead_170 : decode cX12_ahead 170 = .ok (.iload_n 1, 1) := by decide +kernel
theorem dX12_ahead_171 : decode cX12_ahead 171 = .ok (.iaload, 1) := by decide +kernel
theorem dX12_ahead_172 : decode cX12_ahead 172 = .ok (.putfield 29, 3) := by decide +kernel
theorem dX12_ahead_175 : decode cX12_ahead 175 = .ok (.return_, 1) := by decide +kernel
theorem dX12_ahead_176 : decode cX12_ahead 176 = .ok (.aload_n 0, 1) := by decide +kernel
theorem dX12_ahead_177 : decode cX12_ahead 177 = .ok (.iload_n 2, 1) := by decide +kernel
theorem dX12_ahead_178 : decode cX12_ahead 178 = .ok (.ifCond .eq 7, 3) := by decide +kernel
theorem dX12_ahead_181 : decode cX12_ahead 181 = .ok (.iconst 1, 1) := by decide +kernel
theorem dX12_ahead_182 : decode cX12_ahead 182 = .ok (.goto 4, 3) := by decide +kernel
theorem dX12_ahead_185 : decode cX12_ahead 185 = .ok (.iconst 2, 1) := by decide +kernel
theorem dX12_ahead_186 : decode cX12_ahead 186 = .ok (.putfield 20, 3) := by decide +kernel
theorem dX12_ahead_189 : decode cX12_ahead 189 = .ok (.iload_n 2, 1) := by decide +kernel
theorem dX12_ahead_190 : decode cX12_ahead 190 = .ok (.ifCond .eq 8, 3) := by decide +kernel
theorem dX12_ahead_193 : decode cX12_ahead 193 = .ok (.bipush 6, 2) := by decide +kernel
theorem dX12_ahead_195 : decode cX12_ahead 195 = .ok (.goto 4, 3) := by decide +kernel
theorem dX12_ahead_198 : decode cX12_ahead 198 = .ok (.iconst 4, 1) := by decide +kernel
theorem dX12_ahead_199 : decode cX12_ahead 199 = .ok (.istore 4, 2) := by decide +kernel
theorem dX12_ahead_201 : decode cX12_ahead 201 = .ok (.iconst 0, 1) := by decide +kernel
theorem dX12_ahead_202 : decode cX12_ahead 202 = .ok (.istore 5, 2) := by decide +kernel
theorem dX12_ahead_204 : decode cX12_ahead 204 = .ok (.iload_n 1, 1) := by decide +kernel
theorem dX12_ahead_205 : decode cX12_ahead 205 = .ok (.aload_n 0, 1) := by decide +kernel
theorem dX12_ahead_206 : decode cX12_ahead 206 = .ok (.getfield 17, 3) := by decide +kernel
theorem dX12_ahead_209 : decode cX12_ahead 209 = .ok (.if_icmp .ge 125, 3) := by decide +kernel
theorem dX12_ahead_212 : decode cX12_ahead 212 = .ok (.iload_n 2, 1) := by decide +kernel
theorem dX12_ahead_213 : decode cX12_ahead 213 = .ok (.ifCond .eq 18, 3) := by decide +kernel
theorem dX12_ahead_216 : decode cX12_ahead 216 = .ok (.aload_n 0, 1) := by decide +kernel
theorem dX12_ahead_217 : decode cX12_ahead 217 = .ok (.getfield 7, 3) := by decide +kernel
theorem dX12_ahead_220 : decode cX12_ahead 220 = .ok (.iload_n 1, 1) := by decide +kernel
theorem dX12_ahead_221 : decode cX12_ahead 221 = .ok (.iaload, 1) := by decide +kernel
theorem dX12_ahead_222 : decode cX12_ahead 222 = .ok (.invokestatic 228, 3) := by decide +kernel
theorem dX12_ahead_225 : decode cX12_ahead 225 = .ok (.ifCond .eq 109, 3) := by decide +kernel
theorem dX12_ahead_228 : decode cX12_ahead 228 = .ok (.goto 15, 3) := by decide +kernel
theorem dX12_ahead_231 : decode cX12_ahead 231 = .ok (.aload_n 0, 1) := by decide +kernel
theorem dX12_ahead_232 : decode cX12_ahead 232 = .ok (.getfield 7, 3) := by decide +kernel
theorem dX12_ahead_235 : decode cX12_ahead 235 = .ok (.iload_n 1, 1) := by decide +kernel
theorem dX12_ahead_236 : decode cX12_ahead 236 = .ok (.iaload, 1) := by decide +kernel
theorem dX12_ahead_237 : decode cX12_ahead 237 = .ok (.invokestatic 232, 3) := by decide +kernel
theorem dX12_ahead_240 : decode cX12_ahead 240 = .ok (.ifCond .eq 94, 3) := by decide +kernel
theorem dX12_ahead_243 : decode cX12_ahead 243 = .ok (.iload 5, 2) := by decide +kernel
theorem dX12_ahead_245 : decode cX12_ahead 245 = .ok (.iload 4, 2) := by decide +kernel
theorem dX12_ahead_247 : decode cX12_ahead 247 = .ok (.if_icmp .ne 16, 3) := by decide +kernel
theorem dX12_ahead_250 : decode cX12_ahead 250 = .ok (.aload_n 0, 1) := by decide +kernel
theorem dX12_ahead_251 : decode cX12_ahead 251 = .ok (.getfield 48, 3) := by decide +kernel
theorem dX12_ahead_254 : decode cX12_ahead 254 = .ok (.iconst (-1), 1) := by decide +kernel
theorem dX12_ahead_255 : decode cX12_ahead 255 = .ok (.if_icmp .ne 8, 3) := by decide +kernel
theorem dX12_ahead_258 : decode cX12_ahead 258 = .ok (.aload_n 0, 1) := by decide +kernel
theorem dX12_ahead_259 : decode cX12_ahead 259 = .ok (.iload_n 1, 1) := by decide +kernel
theorem dX12_ahead_260 : decode cX12_ahead 260 = .ok (.putfield 48, 3) := by decide +kernel
theorem dX12_ahead_263 : decode cX12_ahead 263 = .ok (.iload 5, 2) := by decide +kernel
theorem dX12_ahead_265 : decode cX12_ahead 265 = .ok (.iload 4, 2) := by decide +kernel
theorem dX12_ahead_267 : decode cX12_ahead 267 = .ok (.if_icmp .ge 26, 3) := by decide +kernel
theorem dX12_ahead_270 : decode cX12_ahead 270 = .ok (.iload_n 2, 1) := by decide +kernel
theorem dX12_ahead_271 : decode cX12_ahead 271 = .ok (.ifCond .eq 22, 3) := by decide +kernel
theorem dX12_ahead_274 : decode cX12_ahead 274 = .ok (.aload_n 0, 1) := by decide +kernel
theorem dX12_ahead_275 : decode cX12_ahead 275 = .ok (.aload_n 0, 1) := by decide +kernel
theorem dX12_ahead_276 : decode cX12_ahead 276 = .ok (.getfield 32, 3) := by decide +kernel
theorem dX12_ahead_279 : decode cX12_ahead 279 = .ok (.bipush 8, 2) := by decide +kernel
theorem dX12_ahead_281 : decode cX12_ahead 281 = .ok (.lshl, 1) := by decide +kernel
theorem dX12_ahead_282 : decode cX12_ahead 282 = .ok (.aload_n 0, 1) := by decide +kernel
theorem dX12_ahead_283 : decode cX12_ahead 283 = .ok (.getfield 7, 3) := by decide +kernel
theorem dX12_ahead_286 : decode cX12_ahead 286 = .ok (.iload_n 1, 1) := by decide +kernel
theorem dX12_ahead_287 : decode cX12_ahead 287 = .ok (.iaload, 1) := by decide +kernel
theorem dX12_ahead_288 : decode cX12_ahead 288 = .ok (.i2l, 1) := by decide +kernel
theorem dX12_ahead_289 : decode cX12_ahead 289 = .ok (.lor, 1) := by decide +kernel
theorem dX12_ahead_290 : decode cX12_ahead 290 = .ok (.putfield 32, 3) := by decide +kernel
theorem dX12_ahead_293 : decode cX12_ahead 293 = .ok (.iload 5, 2) := by decide +kernel
theorem dX12_ahead_295 : decode cX12_ahead 295 = .ok (.iload 4, 2) := by decide +kernel
theorem dX12_ahead_297 : decode cX12_ahead 297 = .ok (.if_icmp .ge 28, 3) := by decide +kernel
theorem dX12_ahead_300 : decode cX12_ahead 300 = .ok (.iload_n 3, 1) := by decide +kernel
theorem dX12_ahead_301 : decode cX12_ahead 301 = .ok (.ifCond .eq 24, 3) := by decide +kernel
theorem dX12_ahead_304 : decode cX12_ahead 304 = .ok (.aload_n 0, 1) := by decide +kernel
theorem dX12_ahead_305 : decode cX12_ahead 305 = .ok (.bipush 10, 2) := by decide +kernel
theorem dX12_ahead_307 : decode cX12_ahead 307 = .ok (.aload_n 0, 1) := by decide +kernel
theorem dX12_ahead_308 : decode cX12_ahead 308 = .ok (.getfield 29, 3) := by decide +kernel
theorem dX12_ahead_311 : decode cX12_ahead 311 = .ok (.imul, 1) := by decide +kernel
theorem dX12_ahead_312 : decode cX12_ahead 312 = .ok (.aload_n 0, 1) := by decide +kernel
theorem dX12_ahead_313 : decode cX12_ahead 313 = .ok (.getfield 7, 3) := by decide +kernel
theorem dX12_ahead_316 : decode cX12_ahead 316 = .ok (.iload_n 1, 1) := by decide +kernel
theorem dX12_ahead_317 : decode cX12_ahead 317 = .ok (.iaload, 1) := by decide +kernel
theorem dX12_ahead_318 : decode cX12_ahead 318 = .ok (.iadd, 1) := by decide +kernel
theorem dX12_ahead_319 : decode cX12_ahead 319 = .ok (.bipush 48, 2) := by decide +kernel
theorem dX12_ahead_321 : decode cX12_ahead 321 = .ok (.isub, 1) := by decide +kernel
theorem dX12_ahead_322 : decode cX12_ahead 322 = .ok (.putfield 29, 3) := by decide +kernel
theorem dX12_ahead_325 : decode cX12_ahead 325 = .ok (.iinc 5 1, 3) := by decide +kernel
theorem dX12_ahead_328 : decode cX12_ahead 328 = .ok (.iinc 1 1, 3) := by decide +kernel
theorem dX12_ahead_331 : decode cX12_ahead 331 = .ok (.goto (-127), 3) := by decide +kernel
theorem dX12_ahead_334 : decode cX12_ahead 334 = .ok (.aload_n 0, 1) := by decide +kernel
theorem dX12_ahead_335 : decode cX12_ahead 335 = .ok (.iload_n 1, 1) := by decide +kernel
theorem dX12_ahead_336 : decode cX12_ahead 336 = .ok (.putfield 26, 3) := by decide +kernel
theorem dX12_ahead_339 : decode cX12_ahead 339 = .ok (.return_, 1) := by decide +kernel
theorem dX12_isSign_0 : decode cX12_isSign 0 = .ok (.aload_n 0, 1) := by decide +kernel
theorem dX12_isSign_1 : decode cX12_isSign 1 = .ok (.getfield 20, 3) := by decide +kernel
theorem dX12_isSign_4 : decode cX12_isSign 4 = .ok (.iconst 3, 1) := by decide +kernel
theorem dX12_isSign_5 : decode cX12_isSign 5 = .ok (.if_icmp .ne 15, 3) := by decide +kernel
theorem dX12_isSign_8 : decode cX12_isSign 8 = .ok (.aload_n 0, 1) := by decide +kernel
theorem dX12_isSign_9 : decode cX12_isSign 9 = .ok (.getfield 29, 3) := by decide +kernel
theorem dX12_isSign_12 : decode cX12_isSign 12 = .ok (.iload_n 1, 1) := by decide +kernel
theorem dX12_isSign_13 : decode cX12_isSign 13 = .ok (.if_icmp .ne 7, 3) := by decide +kernel
theorem dX12_isSign_16 : decode cX12_isSign 16 = .ok (.iconst 1, 1) := by decide +kernel
theorem dX12_isSign_17 : decode cX12_isSign 17 = .ok (.goto 4, 3) := by decide +kernel
theorem dX12_isSign_20 : decode cX12_isSign 20 = .ok (.iconst 0, 1) := by decide +kernel
theorem dX12_isSign_21 : decode cX12_isSign 21 = .ok (.ireturn, 1) := by decide +kernel
theorem dX12_isWord_0 : decode cX12_isWord 0 = .ok (.aload_n 0, 1) := by decide +kernel
theorem dX12_isWord_1 : decode cX12_isWord 1 = .ok (.getfield 20, 3) := by decide +kernel
theorem dX12_isWord_4 : decode cX12_isWord 4 = .ok (.iconst 1, 1) := by decide +kernel
theorem dX12_isWord_5 : decode cX12_isWord 5 = .ok (.if_icmp .ne 16, 3) := by decide +kernel
theorem dX12_isWord_8 : decode cX12_isWord 8 = .ok (.aload_n 0, 1) := by decide +kernel
theorem dX12_isWord_9 : decode cX12_isWord 9 = .ok (.getfield 32, 3) := by decide +kernel
theorem dX12_isWord_12 : decode cX12_isWord 12 = .ok (.lload_n 1, 1) := by decide +kernel
theorem dX12_isWord_13 : decode cX12_isWord 13 = .ok (.lcmp, 1) := by decide +kernel
theorem dX12_isWord_14 : decode cX12_isWord 14 = .ok (.ifCond .ne 7, 3) := by decide +kernel
theorem dX12_isWord_17 : decode cX12_isWord 17 = .ok (.iconst 1, 1) := by decide +kernel
theorem dX12_isWord_18 : decode cX12_isWord 18 = .ok (.goto 4, 3) := by decide +kernel
theorem dX12_isWord_21 : decode cX12_isWord 21 = .ok (.iconst 0, 1) := by decide +kernel
theorem dX12_isWord_22 : decode cX12_isWord 22 = .ok (.ireturn, 1) := by decide +kernel
theorem dX12_must_0 : decode cX12_must 0 = .ok (.aload_n 0, 1) := by decide +kernel
theorem dX12_must_1 : decode cX12_must 1 = .ok (.invokevirtual 235, 3) := by decide +kernel
theorem dX12_must_4 : decode cX12_must 4 = .ok (.aload_n 0, 1) := by decide +kernel
theorem dX12_must_5 : decode cX12_must 5 = .ok (.iload_n 1, 1) := by decide +kernel
theorem dX12_must_6 : decode cX12_must 6 = .ok (.invokevirtual 238, 3) := by decide +kernel
theorem dX12_must_9 : decode cX12_must 9 = .ok (.ifCond .ne 12, 3) := by decide +kernel
theorem dX12_must_12 : decode cX12_must 12 = .ok (.aload_n 0, 1) := by decide +kernel
theorem dX12_must_13 : decode cX12_must 13 = .ok (.iconst 1, 1) := by decide +kernel
theorem dX12_must_14 : decode cX12_must 14 = .ok (.aload_n 0, 1) := by decide +kernel
theorem dX12_must_15 : decode cX12_must 15 = .ok (.getfield 23, 3) := by decide +kernel
theorem dX12_must_18 : decode cX12_must 18 = .ok (.invokevirtual 224, 3) := by decide +kernel
theorem dX12_must_21 : decode cX12_must 21 = .ok (.aload_n 0, 1) := by decide +kernel
theorem dX12_must_22 : decode cX12_must 22 = .ok (.getfield 36, 3) := by decide +kernel
theorem dX12_must_25 : decode cX12_must 25 = .ok (.ifCond .ne 7, 3) := by decide +kernel
theorem dX12_must_28 : decode cX12_must 28 = .ok (.aload_n 0, 1) := by decide +kernel
theorem dX12_must_29 : decode cX12_must 29 = .ok (.invokevirtual 241, 3) := by decide +kernel
theorem dX12_must_32 : decode cX12_must 32 = .ok (.return_, 1) := by decide +kernel
theorem dX12_isOwn_0 : decode cX12_isOwn 0 = .ok (.lload_n 1, 1) := by decide +kernel
theorem dX12_isOwn_1 : decode cX12_isOwn 1 = .ok (.ldc2_w 244, 3) := by decide +kernel
theorem dX12_isOwn_4 : decode cX12_isOwn 4 = .ok (.lcmp, 1) := by decide +kernel
theorem dX12_isOwn_5 : decode cX12_isOwn 5 = .ok (.ifCond .eq 35, 3) := by decide +kernel
theorem dX12_isOwn_8 : decode cX12_isOwn 8 = .ok (.lload_n 1, 1) := by decide +kernel
theorem dX12_isOwn_9 : decode cX12_isOwn 9 = .ok (.ldc2_w 246, 3) := by decide +kernel
theorem dX12_isOwn_12 : decode cX12_isOwn 12 = .ok (.lcmp, 1) := by decide +kernel
theorem dX12_isOwn_13 : decode cX12_isOwn 13 = .ok (.ifCond .eq 27, 3) := by decide +kernel
theorem dX12_isOwn_16 : decode cX12_isOwn 16 = .ok (.lload_n 1, 1) := by decide +kernel
theorem dX12_isOwn_17 : decode cX12_isOwn 17 = .ok (.ldc2_w 248, 3) := by decide +kernel
theorem dX12_isOwn_20 : decode cX12_isOwn 20 = .ok (.lcmp, 1) := by decide +kernel
theorem dX12_isOwn_21 : decode cX12_isOwn 21 = .ok (.ifCond .eq 19, 3) := by decide +kernel
theorem dX12_isOwn_24 : decode cX12_isOwn 24 = .ok (.lload_n 1, 1) := by decide +kernel
theorem dX12_isOwn_25 : decode cX12_isOwn 25 = .ok (.ldc2_w 250, 3) := by decide +kernel
theorem dX12_isOwn_28 : decode cX12_isOwn 28 = .ok (.lcmp, 1) := by decide +kernel
theorem dX12_isOwn_29 : decode cX12_isOwn 29 = .ok (.ifCond .eq 11, 3) := by decide +kernel
theorem dX12_isOwn_32 : decode cX12_isOwn 32 = .ok (.lload_n 1, 1) := by decide +kernel
theorem dX12_isOwn_33 : decode cX12_isOwn 33 = .ok (.ldc2_w 252, 3) := by decide +kernel
theorem dX12_isOwn_36 : decode cX12_isOwn 36 = .ok (.lcmp, 1) := by decide +kernel
theorem dX12_isOwn_37 : decode cX12_isOwn 37 = .ok (.ifCond .ne 5, 3) := by decide +kernel
theorem dX12_isOwn_40 : decode cX12_isOwn 40 = .ok (.iconst 1, 1) := by decide +kernel
theorem dX12_isOwn_41 : decode cX12_isOwn 41 = .ok (.ireturn, 1) := by decide +kernel
theorem dX12_isOwn_42 : decode cX12_isOwn 42 = .ok (.lload_n 1, 1) := by decide +kernel
theorem dX12_isOwn_43 : decode cX12_isOwn 43 = .ok (.ldc2_w 254, 3) := by decide +kernel
theorem dX12_isOwn_46 : decode cX12_isOwn 46 = .ok (.lcmp, 1) := by decide +kernel
theorem dX12_isOwn_47 : decode cX12_isOwn 47 = .ok (.ifCond .eq 35, 3) := by decide +kernel
theorem dX12_isOwn_50 : decode cX12_isOwn 50 = .ok (.lload_n 1, 1) := by decide +kernel
theorem dX12_isOwn_51 : decode cX12_isOwn 51 = .ok (.ldc2_w 256, 3) := by decide +kernel
theorem dX12_isOwn_54 : decode cX12_isOwn 54 = .ok (.lcmp, 1) := by decide +kernel
theorem dX12_isOwn_55 : decode cX12_isOwn 55 = .ok (.ifCond .eq 27, 3) := by decide +kernel
theorem dX12_isOwn_58 : decode cX12_isOwn 58 = .ok (.lload_n 1, 1) := by decide +kernel
theorem dX12_isOwn_59 : decode cX12_isOwn 59 = .ok (.ldc2_w 258, 3) := by decide +kernel
theorem dX12_isOwn_62 : decode cX12_isOwn 62 = .ok (.lcmp, 1) := by decide +kernel
theorem dX12_isOwn_63 : decode cX12_isOwn 63 = .ok (.ifCond .eq 19, 3) := by decide +kernel
theorem dX12_isOwn_66 : decode cX12_isOwn 66 = .ok (.lload_n 1, 1) := by decide +kernel
theorem dX12_isOwn_67 : decode cX12_isOwn 67 = .ok (.ldc2_w 260, 3) := by decide +kernel
theorem dX12_isOwn_70 : decode cX12_isOwn 70 = .ok (.lcmp, 1) := by decide +kernel
theorem dX12_isOwn_71 : decode cX12_isOwn 71 = .ok (.ifCond .eq 11, 3) := by decide +kernel
theorem dX12_isOwn_74 : decode cX12_isOwn 74 = .ok (.lload_n 1, 1) := by decide +kernel
theorem dX12_isOwn_75 : decode cX12_isOwn 75 = .ok (.ldc2_w 262, 3) := by decide +kernel
theorem dX12_isOwn_78 : decode cX12_isOwn 78 = .ok (.lcmp, 1) := by decide +kernel
theorem dX12_isOwn_79 : decode cX12_isOwn 79 = .ok (.ifCond .ne 5, 3) := by decide +kernel
theorem dX12_isOwn_82 : decode cX12_isOwn 82 = .ok (.iconst 1, 1) := by decide +kernel
theorem dX12_isOwn_83 : decode cX12_isOwn 83 = .ok (.ireturn, 1) := by decide +kernel
theorem dX12_isOwn_84 : decode cX12_isOwn 84 = .ok (.lload_n 1, 1) := by decide +kernel
theorem dX12_isOwn_85 : decode cX12_isOwn 85 = .ok (.ldc2_w 264, 3) := by decide +kernel
theorem dX12_isOwn_88 : decode cX12_isOwn 88 = .ok (.lcmp, 1) := by decide +kernel
theorem dX12_isOwn_89 : decode cX12_isOwn 89 = .ok (.ifCond .eq 35, 3) := by decide +kernel
theorem dX12_isOwn_92 : decode cX12_isOwn 92 = .ok (.lload_n 1, 1) := by decide +kernel
theorem dX12_isOwn_93 : decode cX12_isOwn 93 = .ok (.ldc2_w 266, 3) := by decide +kernel
theorem dX12_isOwn_96 : decode cX12_isOwn 96 = .ok (.lcmp, 1) := by decide +kernel
theorem dX12_isOwn_97 : decode cX12_isOwn 97 = .ok (.ifCond .eq 27, 3) := by decide +kernel
theorem dX12_isOwn_100 : decode cX12_isOwn 100 = .ok (.lload_n 1, 1) := by decide +kernel
theorem dX12_isOwn_101 : decode cX12_isOwn 101 = .ok (.ldc2_w 268, 3) := by decide +kernel
theorem dX12_isOwn_104 : decode cX12_isOwn 104 = .ok (.lcmp, 1) := by decide +kernel
theorem dX12_isOwn_105 : decode cX12_isOwn 105 = .ok (.ifCond .eq 19, 3) := by decide +kernel
theorem dX12_isOwn_108 : decode cX12_isOwn 108 = .ok (.lload_n 1, 1) := by decide +kernel
theorem dX12_isOwn_109 : decode cX12_isOwn 109 = .ok (.ldc2_w 270, 3) := by decide +kernel
theorem dX12_isOwn_112 : decode cX12_isOwn 112 = .ok (.lcmp, 1) := by decide +kernel
theorem dX12_isOwn_113 : decode cX12_isOwn 113 = .ok (.ifCond .eq 11, 3) := by decide +kernel
theorem dX12_isOwn_116 : decode cX12_isOwn 116 = .ok (.lload_n 1, 1) := by decide +kernel
theorem dX12_isOwn_117 : decode cX12_isOwn 117 = .ok (.ldc2_w 272, 3) := by decide +kernel
theorem dX12_isOwn_120 : decode cX12_isOwn 120 = .ok (.lcmp, 1) := by decide +kernel
theorem dX12_isOwn_121 : decode cX12_isOwn 121 = .ok (.ifCond .ne 5, 3) := by decide +kernel
theorem dX12_isOwn_124 : decode cX12_isOwn 124 = .ok (.iconst 1, 1) := by decide +kernel
theorem dX12_isOwn_125 : decode cX12_isOwn 125 = .ok (.ireturn, 1) := by decide +kernel
theorem dX12_isOwn_126 : decode cX12_isOwn 126 = .ok (.lload_n 1, 1) := by decide +kernel
theorem dX12_isOwn_127 : decode cX12_isOwn 127 = .ok (.ldc2_w 274, 3) := by decide +kernel
theorem dX12_isOwn_130 : decode cX12_isOwn 130 = .ok (.lcmp, 1) := by decide +kernel
theorem dX12_isOwn_131 : decode cX12_isOwn 131 = .ok (.ifCond .eq 35, 3) := by decide +kernel
theorem dX12_isOwn_134 : decode cX12_isOwn 134 = .ok (.lload_n 1, 1) := by decide +kernel
theorem dX12_isOwn_135 : decode cX12_isOwn 135 = .ok (.ldc2_w 276, 3) := by decide +kernel
theorem dX12_isOwn_138 : decode cX12_isOwn 138 = .ok (.lcmp, 1) := by decide +kernel
theorem dX12_isOwn_139 : decode cX12_isOwn 139 = .ok (.ifCond .eq 27, 3) := by decide +kernel
theorem dX12_isOwn_142 : decode cX12_isOwn 142 = .ok (.lload_n 1, 1) := by decide +kernel
theorem dX12_isOwn_143 : decode cX12_isOwn 143 = .ok (.ldc2_w 278, 3) := by decide +kernel
theorem dX12_isOwn_146 : decode cX12_isOwn 146 = .ok (.lcmp, 1) := by decide +kernel
theorem dX12_isOwn_147 : decode cX12_isOwn 147 = .ok (.ifCond .eq 19, 3) := by decide +kernel
theorem dX12_isOwn_150 : decode cX12_isOwn 150 = .ok (.lload_n 1, 1) := by decide +kernel
theorem dX12_isOwn_151 : decode cX12_isOwn 151 = .ok (.ldc2_w 280, 3) := by decide +kernel
theorem dX12_isOwn_154 : decode cX12_isOwn 154 = .ok (.lcmp, 1) := by decide +kernel
theorem dX12_isOwn_155 : decode cX12_isOwn 155 = .ok (.ifCond .eq 11, 3) := by decide +kernel
theorem dX12_isOwn_158 : decode cX12_isOwn 158 = .ok (.lload_n 1, 1) := by decide +kernel
theorem dX12_isOwn_159 : decode cX12_isOwn 159 = .ok (.ldc2_w 282, 3) := by decide +kernel
theorem dX12_isOwn_162 : decode cX12_isOwn 162 = .ok (.lcmp, 1) := by decide +kernel
theorem dX12_isOwn_163 : decode cX12_isOwn 163 = .ok (.ifCond .ne 5, 3) := by decide +kernel
theorem dX12_isOwn_166 : decode cX12_isOwn 166 = .ok (.iconst 1, 1) := by decide +kernel
theorem dX12_isOwn_167 : decode cX12_isOwn 167 = .ok (.ireturn, 1) := by decide +kernel
theorem dX12_isOwn_168 : decode cX12_isOwn 168 = .ok (.lload_n 1, 1) := by decide +kernel
theorem dX12_isOwn_169 : decode cX12_isOwn 169 = .ok (.ldc2_w 284, 3) := by decide +kernel
theorem dX12_isOwn_172 : decode cX12_isOwn 172 = .ok (.lcmp, 1) := by decide +kernel
theorem dX12_isOwn_173 : decode cX12_isOwn 173 = .ok (.ifCond .eq 35, 3) := by decide +kernel
theorem dX12_isOwn_176 : decode cX12_isOwn 176 = .ok (.lload_n 1, 1) := by decide +kernel
theorem dX12_isOwn_177 : decode cX12_isOwn 177 = .ok (.ldc2_w 286, 3) := by decide +kernel
theorem dX12_isOwn_180 : decode cX12_isOwn 180 = .ok (.lcmp, 1) := by decide +kernel
theorem dX12_isOwn_181 : decode cX12_isOwn 181 = .ok (.ifCond .eq 27, 3) := by decide +kernel
theorem dX12_isOwn_184 : decode cX12_isOwn 184 = .ok (.lload_n 1, 1) := by decide +kernel
theorem dX12_isOwn_185 : decode cX12_isOwn 185 = .ok (.ldc2_w 288, 3) := by decide +kernel
theorem dX12_isOwn_188 : decode cX12_isOwn 188 = .ok (.lcmp, 1) := by decide +kernel
theorem dX12_isOwn_189 : decode cX12_isOwn 189 = .ok (.ifCond .eq 19, 3) := by decide +kernel
theorem dX12_isOwn_192 : decode cX12_isOwn 192 = .ok (.lload_n 1, 1) := by decide +kernel
theorem dX12_isOwn_193 : decode cX12_isOwn 193 = .ok (.ldc2_w 290, 3) := by decide +kernel
theorem dX12_isOwn_196 : decode cX12_isOwn 196 = .ok (.lcmp, 1) := by decide +kernel
theorem dX12_isOwn_197 : decode cX12_isOwn 197 = .ok (.ifCond .eq 11, 3) := by decide +kernel
theorem dX12_isOwn_200 : decode cX12_isOwn 200 = .ok (.lload_n 1, 1) := by decide +kernel
theorem dX12_isOwn_201 : decode cX12_isOwn 201 = .ok (.ldc2_w 292, 3) := by decide +kernel
theorem dX12_isOwn_204 : decode cX12_isOwn 204 = .ok (.lcmp, 1) := by decide +kernel
theorem dX12_isOwn_205 : decode cX12_isOwn 205 = .ok (.ifCond .ne 5, 3) := by decide +kernel
theorem dX12_isOwn_208 : decode cX12_isOwn 208 = .ok (.iconst 1, 1) := by decide +kernel
theorem dX12_isOwn_209 : decode cX12_isOwn 209 = .ok (.ireturn, 1) := by decide +kernel
theorem dX12_isOwn_210 : decode cX12_isOwn 210 = .ok (.lload_n 1, 1) := by decide +kernel
theorem dX12_isOwn_211 : decode cX12_isOwn 211 = .ok (.ldc2_w 294, 3) := by decide +kernel
theorem dX12_isOwn_214 : decode cX12_isOwn 214 = .ok (.lcmp, 1) := by decide +kernel
theorem dX12_isOwn_215 : decode cX12_isOwn 215 = .ok (.ifCond .ne 5, 3) := by decide +kernel
theorem dX12_isOwn_218 : decode cX12_isOwn 218 = .ok (.iconst 1, 1) := by decide +kernel
theorem dX12_isOwn_219 : decode cX12_isOwn 219 = .ok (.ireturn, 1) := by decide +kernel
theorem dX12_isOwn_220 : decode cX12_isOwn 220 = .ok (.iconst 0, 1) := by decide +kernel
theorem dX12_isOwn_221 : decode cX12_isOwn 221 = .ok (.ireturn, 1) := by decide +kernel
theorem dX12_isNamed_0 : decode cX12_isNamed 0 = .ok (.iconst 0, 1) := by decide +kernel
theorem dX12_isNamed_1 : decode cX12_isNamed 1 = .ok (.istore_n 3, 1) := by decide +kernel
theorem dX12_isNamed_2 : decode cX12_isNamed 2 = .ok (.iload_n 3, 1) := by decide +kernel
theorem dX12_isNamed_3 : decode cX12_isNamed 3 = .ok (.aload_n 0, 1) := by decide +kernel
theorem dX12_isNamed_4 : decode cX12_isNamed 4 = .ok (.getfield 54, 3) := by decide +kernel
theorem dX12_isNamed_7 : decode cX12_isNamed 7 = .ok (.aload_n 0, 1) := by decide +kernel
theorem dX12_isNamed_8 : decode cX12_isNamed 8 = .ok (.getfield 100, 3) := by decide +kernel
theorem dX12_isNamed_11 : decode cX12_isNamed 11 = .ok (.iaload, 1) := by decide +kernel
theorem dX12_isNamed_12 : decode cX12_isNamed 12 = .ok (.if_icmp .ge 30, 3) := by decide +kernel
theorem dX12_isNamed_15 : decode cX12_isNamed 15 = .ok (.aload_n 0, 1) := by decide +kernel
theorem dX12_isNamed_16 : decode cX12_isNamed 16 = .ok (.getfield 90, 3) := by decide +kernel
theorem dX12_isNamed_19 : decode cX12_isNamed 19 = .ok (.bipush 8, 2) := by decide +kernel
theorem dX12_isNamed_21 : decode cX12_isNamed 21 = .ok (.aload_n 0, 1) := by decide +kernel
theorem dX12_isNamed_22 : decode cX12_isNamed 22 = .ok (.getfield 100, 3) := by decide +kernel
theorem dX12_isNamed_25 : decode cX12_isNamed 25 = .ok (.imul, 1) := by decide +kernel
theorem dX12_isNamed_26 : decode cX12_isNamed 26 = .ok (.iload_n 3, 1) := by decide +kernel
theorem dX12_isNamed_27 : decode cX12_isNamed 27 = .ok (.iadd, 1) := by decide +kernel
theorem dX12_isNamed_28 : decode cX12_isNamed 28 = .ok (.laload, 1) := by decide +kernel
theorem dX12_isNamed_29 : decode cX12_isNamed 29 = .ok (.lload_n 1, 1) := by decide +kernel
theorem dX12_isNamed_30 : decode cX12_isNamed 30 = .ok (.lcmp, 1) := by decide +kernel
theorem dX12_isNamed_31 : decode cX12_isNamed 31 = .ok (.ifCond .ne 5, 3) := by decide +kernel
theorem dX12_isNamed_34 : decode cX12_isNamed 34 = .ok (.iconst 1, 1) := by decide +kernel
theorem dX12_isNamed_35 : decode cX12_isNamed 35 = .ok (.ireturn, 1) := by decide +kernel
theorem dX12_isNamed_36 : decode cX12_isNamed 36 = .ok (.iinc 3 1, 3) := by decide +kernel
theorem dX12_isNamed_39 : decode cX12_isNamed 39 = .ok (.goto (-37), 3) := by decide +kernel
theorem dX12_isNamed_42 : decode cX12_isNamed 42 = .ok (.iconst 0, 1) := by decide +kernel
theorem dX12_isNamed_43 : decode cX12_isNamed 43 = .ok (.istore_n 3, 1) := by decide +kernel
theorem dX12_isNamed_44 : decode cX12_isNamed 44 = .ok (.iload_n 3, 1) := by decide +kernel
theorem dX12_isNamed_45 : decode cX12_isNamed 45 = .ok (.aload_n 0, 1) := by decide +kernel
theorem dX12_isNamed_46 : decode cX12_isNamed 46 = .ok (.getfield 63, 3) := by decide +kernel
theorem dX12_isNamed_49 : decode cX12_isNamed 49 = .ok (.aload_n 0, 1) := by decide +kernel
theorem dX12_isNamed_50 : decode cX12_isNamed 50 = .ok (.getfield 100, 3) := by decide +kernel
theorem dX12_isNamed_53 : decode cX12_isNamed 53 = .ok (.iaload, 1) := by decide +kernel
theorem dX12_isNamed_54 : decode cX12_isNamed 54 = .ok (.if_icmp .ge 29, 3) := by decide +kernel
theorem dX12_isNamed_57 : decode cX12_isNamed 57 = .ok (.aload_n 0, 1) := by decide +kernel
theorem dX12_isNamed_58 : decode cX12_isNamed 58 = .ok (.getfield 94, 3) := by decide +kernel
theorem dX12_isNamed_61 : decode cX12_isNamed 61 = .ok (.iconst 3, 1) := by decide +kernel
theorem dX12_isNamed_62 : decode cX12_isNamed 62 = .ok (.aload_n 0, 1) := by decide +kernel
theorem dX12_isNamed_63 : decode cX12_isNamed 63 = .ok (.getfield 100, 3) := by decide +kernel
theorem dX12_isNamed_66 : decode cX12_isNamed 66 = .ok (.imul, 1) := by decide +kernel
theorem dX12_isNamed_67 : decode cX12_isNamed 67 = .ok (.iload_n 3, 1) := by decide +kernel
theorem dX12_isNamed_68 : decode cX12_isNamed 68 = .ok (.iadd, 1) := by decide +kernel
theorem dX12_isNamed_69 : decode cX12_isNamed 69 = .ok (.laload, 1) := by decide +kernel
theorem dX12_isNamed_70 : decode cX12_isNamed 70 = .ok (.lload_n 1, 1) := by decide +kernel
theorem dX12_isNamed_71 : decode cX12_isNamed 71 = .ok (.lcmp, 1) := by decide +kernel
theorem dX12_isNamed_72 : decode cX12_isNamed 72 = .ok (.ifCond .ne 5, 3) := by decide +kernel
theorem dX12_isNamed_75 : decode cX12_isNamed 75 = .ok (.iconst 1, 1) := by decide +kernel
theorem dX12_isNamed_76 : decode cX12_isNamed 76 = .ok (.ireturn, 1) := by decide +kernel
theorem dX12_isNamed_77 : decode cX12_isNamed 77 = .ok (.iinc 3 1, 3) := by decide +kernel
theorem dX12_isNamed_80 : decode cX12_isNamed 80 = .ok (.goto (-36), 3) := by decide +kernel
theorem dX12_isNamed_83 : decode cX12_isNamed 83 = .ok (.iconst 0, 1) := by decide +kernel
theorem dX12_isNamed_84 : decode cX12_isNamed 84 = .ok (.ireturn, 1) := by decide +kernel
theorem dX12_number_0 : decode cX12_number 0 = .ok (.aload_n 0, 1) := by decide +kernel
theorem dX12_number_1 : decode cX12_number 1 = .ok (.invokevirtual 235, 3) := by decide +kernel
theorem dX12_number_4 : decode cX12_number 4 = .ok (.aload_n 0, 1) := by decide +kernel
theorem dX12_number_5 : decode cX12_number 5 = .ok (.getfield 36, 3) := by decide +kernel
theorem dX12_number_8 : decode cX12_number 8 = .ok (.ifCond .le 5, 3) := by decide +kernel
theorem dX12_number_11 : decode cX12_number 11 = .ok (.iconst 0, 1) := by decide +kernel
theorem dX12_number_12 : decode cX12_number 12 = .ok (.ireturn, 1) := by decide +kernel
theorem dX12_number_13 : decode cX12_number 13 = .ok (.aload_n 0, 1) := by decide +kernel
theorem dX12_number_14 : decode cX12_number 14 = .ok (.getfield 20, 3) := by decide +kernel
theorem dX12_number_17 : decode cX12_number 17 = .ok (.iconst 2, 1) := by decide +kernel
theorem dX12_number_18 : decode cX12_number 18 = .ok (.if_icmp .eq 12, 3) := by decide +kernel
theorem dX12_number_21 : decode cX12_number 21 = .ok (.aload_n 0, 1) := by decide +kernel
theorem dX12_number_22 : decode cX12_number 22 = .ok (.iconst 1, 1) := by decide +kernel
theorem dX12_number_23 : decode cX12_number 23 = .ok (.aload_n 0, 1) := by decide +kernel
theorem dX12_number_24 : decode cX12_number 24 = .ok (.getfield 23, 3) := by decide +kernel
theorem dX12_number_27 : decode cX12_number 27 = .ok (.invokevirtual 224, 3) := by decide +kernel
theorem dX12_number_30 : decode cX12_number 30 = .ok (.aload_n 0, 1) := by decide +kernel
theorem dX12_number_31 : decode cX12_number 31 = .ok (.getfield 36, 3) := by decide +kernel
theorem dX12_number_34 : decode cX12_number 34 = .ok (.ifCond .ne 24, 3) := by decide +kernel
theorem dX12_number_37 : decode cX12_number 37 = .ok (.aload_n 0, 1) := by decide +kernel
theorem dX12_number_38 : decode cX12_number 38 = .ok (.getfield 29, 3) := by decide +kernel
theorem dX12_number_41 : decode cX12_number 41 = .ok (.iload_n 1, 1) := by decide +kernel
theorem dX12_number_42 : decode cX12_number 42 = .ok (.iload_n 2, 1) := by decide +kernel
