theorem dX0_init_0 : decode cX0_init 0 = .ok (.aload_n 0, 1) := by decide +kernel
theorem dX0_init_1 : decode cX0_init 1 = .ok (.invokespecial 3, 3) := by decide +kernel
theorem dX0_init_4 : decode cX0_init 4 = .ok (.aload_n 0, 1) := by decide +kernel
theorem dX0_init_5 : decode cX0_init 5 = .ok (.iconst 0, 1) := by decide +kernel
theorem dX0_init_6 : decode cX0_init 6 = .ok (.putfield 9, 3) := by decide +kernel
theorem dX0_init_9 : decode cX0_init 9 = .ok (.aload_n 0, 1) := by decide +kernel
theorem dX0_init_10 : decode cX0_init 10 = .ok (.iconst 0, 1) := by decide +kernel
theorem dX0_init_11 : decode cX0_init 11 = .ok (.putfield 15, 3) := by decide +kernel
theorem dX0_init_14 : decode cX0_init 14 = .ok (.aload_n 0, 1) := by decide +kernel
theorem dX0_init_15 : decode cX0_init 15 = .ok (.bipush 8, 2) := by decide +kernel
theorem dX0_init_17 : decode cX0_init 17 = .ok (.newarray .int, 2) := by decide +kernel
theorem dX0_init_19 : decode cX0_init 19 = .ok (.putfield 18, 3) := by decide +kernel
theorem dX0_init_22 : decode cX0_init 22 = .ok (.aload_n 0, 1) := by decide +kernel
theorem dX0_init_23 : decode cX0_init 23 = .ok (.bipush 8, 2) := by decide +kernel
theorem dX0_init_25 : decode cX0_init 25 = .ok (.newarray .int, 2) := by decide +kernel
theorem dX0_init_27 : decode cX0_init 27 = .ok (.putfield 22, 3) := by decide +kernel
theorem dX0_init_30 : decode cX0_init 30 = .ok (.aload_n 0, 1) := by decide +kernel
theorem dX0_init_31 : decode cX0_init 31 = .ok (.bipush 8, 2) := by decide +kernel
theorem dX0_init_33 : decode cX0_init 33 = .ok (.newarray .int, 2) := by decide +kernel
theorem dX0_init_35 : decode cX0_init 35 = .ok (.putfield 25, 3) := by decide +kernel
theorem dX0_init_38 : decode cX0_init 38 = .ok (.aload_n 0, 1) := by decide +kernel
theorem dX0_init_39 : decode cX0_init 39 = .ok (.bipush 8, 2) := by decide +kernel
theorem dX0_init_41 : decode cX0_init 41 = .ok (.newarray .int, 2) := by decide +kernel
theorem dX0_init_43 : decode cX0_init 43 = .ok (.putfield 28, 3) := by decide +kernel
theorem dX0_init_46 : decode cX0_init 46 = .ok (.aload_n 0, 1) := by decide +kernel
theorem dX0_init_47 : decode cX0_init 47 = .ok (.bipush 8, 2) := by decide +kernel
theorem dX0_init_49 : decode cX0_init 49 = .ok (.newarray .int, 2) := by decide +kernel
theorem dX0_init_51 : decode cX0_init 51 = .ok (.putfield 31, 3) := by decide +kernel
theorem dX0_init_54 : decode cX0_init 54 = .ok (.aload_n 0, 1) := by decide +kernel
theorem dX0_init_55 : decode cX0_init 55 = .ok (.iconst 3, 1) := by decide +kernel
theorem dX0_init_56 : decode cX0_init 56 = .ok (.newarray .int, 2) := by decide +kernel
theorem dX0_init_58 : decode cX0_init 58 = .ok (.putfield 34, 3) := by decide +kernel
theorem dX0_init_61 : decode cX0_init 61 = .ok (.aload_n 0, 1) := by decide +kernel
theorem dX0_init_62 : decode cX0_init 62 = .ok (.bipush 32, 2) := by decide +kernel
theorem dX0_init_64 : decode cX0_init 64 = .ok (.newarray .int, 2) := by decide +kernel
theorem dX0_init_66 : decode cX0_init 66 = .ok (.putfield 37, 3) := by decide +kernel
theorem dX0_init_69 : decode cX0_init 69 = .ok (.aload_n 0, 1) := by decide +kernel
theorem dX0_init_70 : decode cX0_init 70 = .ok (.iconst 0, 1) := by decide +kernel
theorem dX0_init_71 : decode cX0_init 71 = .ok (.putfield 40, 3) := by decide +kernel
theorem dX0_init_74 : decode cX0_init 74 = .ok (.return_, 1) := by decide +kernel
theorem dX0_begin_0 : decode cX0_begin 0 = .ok (.aload_n 0, 1) := by decide +kernel
theorem dX0_begin_1 : decode cX0_begin 1 = .ok (.iconst 0, 1) := by decide +kernel
theorem dX0_begin_2 : decode cX0_begin 2 = .ok (.putfield 9, 3) := by decide +kernel
theorem dX0_begin_5 : decode cX0_begin 5 = .ok (.aload_n 0, 1) := by decide +kernel
theorem dX0_begin_6 : decode cX0_begin 6 = .ok (.aload_n 1, 1) := by decide +kernel
theorem dX0_begin_7 : decode cX0_begin 7 = .ok (.getfield 43, 3) := by decide +kernel
theorem dX0_begin_10 : decode cX0_begin 10 = .ok (.putfield 15, 3) := by decide +kernel
theorem dX0_begin_13 : decode cX0_begin 13 = .ok (.aload_n 0, 1) := by decide +kernel
theorem dX0_begin_14 : decode cX0_begin 14 = .ok (.iconst 0, 1) := by decide +kernel
theorem dX0_begin_15 : decode cX0_begin 15 = .ok (.putfield 40, 3) := by decide +kernel
theorem dX0_begin_18 : decode cX0_begin 18 = .ok (.aload_n 0, 1) := by decide +kernel
theorem dX0_begin_19 : decode cX0_begin 19 = .ok (.getfield 18, 3) := by decide +kernel
theorem dX0_begin_22 : decode cX0_begin 22 = .ok (.iconst (-1), 1) := by decide +kernel
theorem dX0_begin_23 : decode cX0_begin 23 = .ok (.invokestatic 48, 3) := by decide +kernel
theorem dX0_begin_26 : decode cX0_begin 26 = .ok (.aload_n 0, 1) := by decide +kernel
theorem dX0_begin_27 : decode cX0_begin 27 = .ok (.getfield 22, 3) := by decide +kernel
theorem dX0_begin_30 : decode cX0_begin 30 = .ok (.iconst (-1), 1) := by decide +kernel
theorem dX0_begin_31 : decode cX0_begin 31 = .ok (.invokestatic 48, 3) := by decide +kernel
theorem dX0_begin_34 : decode cX0_begin 34 = .ok (.aload_n 0, 1) := by decide +kernel
theorem dX0_begin_35 : decode cX0_begin 35 = .ok (.getfield 25, 3) := by decide +kernel
theorem dX0_begin_38 : decode cX0_begin 38 = .ok (.iconst (-1), 1) := by decide +kernel
theorem dX0_begin_39 : decode cX0_begin 39 = .ok (.invokestatic 48, 3) := by decide +kernel
theorem dX0_begin_42 : decode cX0_begin 42 = .ok (.aload_n 0, 1) := by decide +kernel
theorem dX0_begin_43 : decode cX0_begin 43 = .ok (.getfield 28, 3) := by decide +kernel
theorem dX0_begin_46 : decode cX0_begin 46 = .ok (.iconst 0, 1) := by decide +kernel
theorem dX0_begin_47 : decode cX0_begin 47 = .ok (.invokestatic 48, 3) := by decide +kernel
theorem dX0_begin_50 : decode cX0_begin 50 = .ok (.aload_n 0, 1) := by decide +kernel
theorem dX0_begin_51 : decode cX0_begin 51 = .ok (.getfield 31, 3) := by decide +kernel
theorem dX0_begin_54 : decode cX0_begin 54 = .ok (.iconst 0, 1) := by decide +kernel
theorem dX0_begin_55 : decode cX0_begin 55 = .ok (.invokestatic 48, 3) := by decide +kernel
theorem dX0_begin_58 : decode cX0_begin 58 = .ok (.aload_n 0, 1) := by decide +kernel
theorem dX0_begin_59 : decode cX0_begin 59 = .ok (.getfield 34, 3) := by decide +kernel
theorem dX0_begin_62 : decode cX0_begin 62 = .ok (.iconst (-1), 1) := by decide +kernel
theorem dX0_begin_63 : decode cX0_begin 63 = .ok (.invokestatic 48, 3) := by decide +kernel
theorem dX0_begin_66 : decode cX0_begin 66 = .ok (.return_, 1) := by decide +kernel
theorem dX0_copyFrom_0 : decode cX0_copyFrom 0 = .ok (.aload_n 0, 1) := by decide +kernel
theorem dX0_copyFrom_1 : decode cX0_copyFrom 1 = .ok (.aload_n 1, 1) := by decide +kernel
theorem dX0_copyFrom_2 : decode cX0_copyFrom 2 = .ok (.getfield 9, 3) := by decide +kernel
theorem dX0_copyFrom_5 : decode cX0_copyFrom 5 = .ok (.putfield 9, 3) := by decide +kernel
theorem dX0_copyFrom_8 : decode cX0_copyFrom 8 = .ok (.aload_n 0, 1) := by decide +kernel
theorem dX0_copyFrom_9 : decode cX0_copyFrom 9 = .ok (.aload_n 1, 1) := by decide +kernel
theorem dX0_copyFrom_10 : decode cX0_copyFrom 10 = .ok (.getfield 15, 3) := by decide +kernel
theorem dX0_copyFrom_13 : decode cX0_copyFrom 13 = .ok (.putfield 15, 3) := by decide +kernel
theorem dX0_copyFrom_16 : decode cX0_copyFrom 16 = .ok (.aload_n 0, 1) := by decide +kernel
theorem dX0_copyFrom_17 : decode cX0_copyFrom 17 = .ok (.aload_n 1, 1) := by decide +kernel
theorem dX0_copyFrom_18 : decode cX0_copyFrom 18 = .ok (.getfield 40, 3) := by decide +kernel
theorem dX0_copyFrom_21 : decode cX0_copyFrom 21 = .ok (.putfield 40, 3) := by decide +kernel
theorem dX0_copyFrom_24 : decode cX0_copyFrom 24 = .ok (.aload_n 1, 1) := by decide +kernel
theorem dX0_copyFrom_25 : decode cX0_copyFrom 25 = .ok (.getfield 18, 3) := by decide +kernel
theorem dX0_copyFrom_28 : decode cX0_copyFrom 28 = .ok (.iconst 0, 1) := by decide +kernel
theorem dX0_copyFrom_29 : decode cX0_copyFrom 29 = .ok (.aload_n 0, 1) := by decide +kernel
theorem dX0_copyFrom_30 : decode cX0_copyFrom 30 = .ok (.getfield 18, 3) := by decide +kernel
theorem dX0_copyFrom_33 : decode cX0_copyFrom 33 = .ok (.iconst 0, 1) := by decide +kernel
theorem dX0_copyFrom_34 : decode cX0_copyFrom 34 = .ok (.bipush 8, 2) := by decide +kernel
theorem dX0_copyFrom_36 : decode cX0_copyFrom 36 = .ok (.invokestatic 54, 3) := by decide +kernel
theorem dX0_copyFrom_39 : decode cX0_copyFrom 39 = .ok (.aload_n 1, 1) := by decide +kernel
theorem dX0_copyFrom_40 : decode cX0_copyFrom 40 = .ok (.getfield 22, 3) := by decide +kernel
theorem dX0_copyFrom_43 : decode cX0_copyFrom 43 = .ok (.iconst 0, 1) := by decide +kernel
theorem dX0_copyFrom_44 : decode cX0_copyFrom 44 = .ok (.aload_n 0, 1) := by decide +kernel
theorem dX0_copyFrom_45 : decode cX0_copyFrom 45 = .ok (.getfield 22, 3) := by decide +kernel
theorem dX0_copyFrom_48 : decode cX0_copyFrom 48 = .ok (.iconst 0, 1) := by decide +kernel
theorem dX0_copyFrom_49 : decode cX0_copyFrom 49 = .ok (.bipush 8, 2) := by decide +kernel
theorem dX0_copyFrom_51 : decode cX0_copyFrom 51 = .ok (.invokestatic 54, 3) := by decide +kernel
theorem dX0_copyFrom_54 : decode cX0_copyFrom 54 = .ok (.aload_n 1, 1) := by decide +kernel
theorem dX0_copyFrom_55 : decode cX0_copyFrom 55 = .ok (.getfield 25, 3) := by decide +kernel
theorem dX0_copyFrom_58 : decode cX0_copyFrom 58 = .ok (.iconst 0, 1) := by decide +kernel
theorem dX0_copyFrom_59 : decode cX0_copyFrom 59 = .ok (.aload_n 0, 1) := by decide +kernel
theorem dX0_copyFrom_60 : decode cX0_copyFrom 60 = .ok (.getfield 25, 3) := by decide +kernel
theorem dX0_copyFrom_63 : decode cX0_copyFrom 63 = .ok (.iconst 0, 1) := by decide +kernel
theorem dX0_copyFrom_64 : decode cX0_copyFrom 64 = .ok (.bipush 8, 2) := by decide +kernel
theorem dX0_copyFrom_66 : decode cX0_copyFrom 66 = .ok (.invokestatic 54, 3) := by decide +kernel
theorem dX0_copyFrom_69 : decode cX0_copyFrom 69 = .ok (.aload_n 1, 1) := by decide +kernel
theorem dX0_copyFrom_70 : decode cX0_copyFrom 70 = .ok (.getfield 28, 3) := by decide +kernel
theorem dX0_copyFrom_73 : decode cX0_copyFrom 73 = .ok (.iconst 0, 1) := by decide +kernel
theorem dX0_copyFrom_74 : decode cX0_copyFrom 74 = .ok (.aload_n 0, 1) := by decide +kernel
theorem dX0_copyFrom_75 : decode cX0_copyFrom 75 = .ok (.getfield 28, 3) := by decide +kernel
theorem dX0_copyFrom_78 : decode cX0_copyFrom 78 = .ok (.iconst 0, 1) := by decide +kernel
theorem dX0_copyFrom_79 : decode cX0_copyFrom 79 = .ok (.bipush 8, 2) := by decide +kernel
theorem dX0_copyFrom_81 : decode cX0_copyFrom 81 = .ok (.invokestatic 54, 3) := by decide +kernel
theorem dX0_copyFrom_84 : decode cX0_copyFrom 84 = .ok (.aload_n 1, 1) := by decide +kernel
theorem dX0_copyFrom_85 : decode cX0_copyFrom 85 = .ok (.getfield 31, 3) := by decide +kernel
theorem dX0_copyFrom_88 : decode cX0_copyFrom 88 = .ok (.iconst 0, 1) := by decide +kernel
theorem dX0_copyFrom_89 : decode cX0_copyFrom 89 = .ok (.aload_n 0, 1) := by decide +kernel
theorem dX0_copyFrom_90 : decode cX0_copyFrom 90 = .ok (.getfield 31, 3) := by decide +kernel
theorem dX0_copyFrom_93 : decode cX0_copyFrom 93 = .ok (.iconst 0, 1) := by decide +kernel
theorem dX0_copyFrom_94 : decode cX0_copyFrom 94 = .ok (.bipush 8, 2) := by decide +kernel
theorem dX0_copyFrom_96 : decode cX0_copyFrom 96 = .ok (.invokestatic 54, 3) := by decide +kernel
theorem dX0_copyFrom_99 : decode cX0_copyFrom 99 = .ok (.aload_n 1, 1) := by decide +kernel
theorem dX0_copyFrom_100 : decode cX0_copyFrom 100 = .ok (.getfield 34, 3) := by decide +kernel
theorem dX0_copyFrom_103 : decode cX0_copyFrom 103 = .ok (.iconst 0, 1) := by decide +kernel
theorem dX0_copyFrom_104 : decode cX0_copyFrom 104 = .ok (.aload_n 0, 1) := by decide +kernel
theorem dX0_copyFrom_105 : decode cX0_copyFrom 105 = .ok (.getfield 34, 3) := by decide +kernel
theorem dX0_copyFrom_108 : decode cX0_copyFrom 108 = .ok (.iconst 0, 1) := by decide +kernel
theorem dX0_copyFrom_109 : decode cX0_copyFrom 109 = .ok (.iconst 3, 1) := by decide +kernel
theorem dX0_copyFrom_110 : decode cX0_copyFrom 110 = .ok (.invokestatic 54, 3) := by decide +kernel
theorem dX0_copyFrom_113 : decode cX0_copyFrom 113 = .ok (.aload_n 1, 1) := by decide +kernel
theorem dX0_copyFrom_114 : decode cX0_copyFrom 114 = .ok (.getfield 37, 3) := by decide +kernel
theorem dX0_copyFrom_117 : decode cX0_copyFrom 117 = .ok (.iconst 0, 1) := by decide +kernel
theorem dX0_copyFrom_118 : decode cX0_copyFrom 118 = .ok (.aload_n 0, 1) := by decide +kernel
theorem dX0_copyFrom_119 : decode cX0_copyFrom 119 = .ok (.getfield 37, 3) := by decide +kernel
theorem dX0_copyFrom_122 : decode cX0_copyFrom 122 = .ok (.iconst 0, 1) := by decide +kernel
theorem dX0_copyFrom_123 : decode cX0_copyFrom 123 = .ok (.aload_n 0, 1) := by decide +kernel
theorem dX0_copyFrom_124 : decode cX0_copyFrom 124 = .ok (.getfield 40, 3) := by decide +kernel
theorem dX0_copyFrom_127 : decode cX0_copyFrom 127 = .ok (.iconst 4, 1) := by decide +kernel
theorem dX0_copyFrom_128 : decode cX0_copyFrom 128 = .ok (.imul, 1) := by decide +kernel
theorem dX0_copyFrom_129 : decode cX0_copyFrom 129 = .ok (.invokestatic 54, 3) := by decide +kernel
theorem dX0_copyFrom_132 : decode cX0_copyFrom 132 = .ok (.return_, 1) := by decide +kernel
theorem dX0_isFired_0 : decode cX0_isFired 0 = .ok (.aload_n 0, 1) := by decide +kernel
theorem dX0_isFired_1 : decode cX0_isFired 1 = .ok (.getfield 25, 3) := by decide +kernel
theorem dX0_isFired_4 : decode cX0_isFired 4 = .ok (.iload_n 1, 1) := by decide +kernel
theorem dX0_isFired_5 : decode cX0_isFired 5 = .ok (.iaload, 1) := by decide +kernel
theorem dX0_isFired_6 : decode cX0_isFired 6 = .ok (.iconst (-1), 1) := by decide +kernel
theorem dX0_isFired_7 : decode cX0_isFired 7 = .ok (.if_icmp .eq 7, 3) := by decide +kernel
theorem dX0_isFired_10 : decode cX0_isFired 10 = .ok (.iconst 1, 1) := by decide +kernel
theorem dX0_isFired_11 : decode cX0_isFired 11 = .ok (.goto 4, 3) := by decide +kernel
theorem dX0_isFired_14 : decode cX0_isFired 14 = .ok (.iconst 0, 1) := by decide +kernel
theorem dX0_isFired_15 : decode cX0_isFired 15 = .ok (.ireturn, 1) := by decide +kernel
theorem dX0_whoIsIn_0 : decode cX0_whoIsIn 0 = .ok (.iconst 0, 1) := by decide +kernel
theorem dX0_whoIsIn_1 : decode cX0_whoIsIn 1 = .ok (.istore_n 3, 1) := by decide +kernel
theorem dX0_whoIsIn_2 : decode cX0_whoIsIn 2 = .ok (.iload_n 3, 1) := by decide +kernel
theorem dX0_whoIsIn_3 : decode cX0_whoIsIn 3 = .ok (.bipush 8, 2) := by decide +kernel
theorem dX0_whoIsIn_5 : decode cX0_whoIsIn 5 = .ok (.if_icmp .ge 31, 3) := by decide +kernel
theorem dX0_whoIsIn_8 : decode cX0_whoIsIn 8 = .ok (.aload_n 0, 1) := by decide +kernel
theorem dX0_whoIsIn_9 : decode cX0_whoIsIn 9 = .ok (.getfield 18, 3) := by decide +kernel
theorem dX0_whoIsIn_12 : decode cX0_whoIsIn 12 = .ok (.iload_n 3, 1) := by decide +kernel
theorem dX0_whoIsIn_13 : decode cX0_whoIsIn 13 = .ok (.iaload, 1) := by decide +kernel
theorem dX0_whoIsIn_14 : decode cX0_whoIsIn 14 = .ok (.iload_n 1, 1) := by decide +kernel
theorem dX0_whoIsIn_15 : decode cX0_whoIsIn 15 = .ok (.if_icmp .ne 15, 3) := by decide +kernel
theorem dX0_whoIsIn_18 : decode cX0_whoIsIn 18 = .ok (.aload_n 0, 1) := by decide +kernel
theorem dX0_whoIsIn_19 : decode cX0_whoIsIn 19 = .ok (.getfield 22, 3) := by decide +kernel
theorem dX0_whoIsIn_22 : decode cX0_whoIsIn 22 = .ok (.iload_n 3, 1) := by decide +kernel
theorem dX0_whoIsIn_23 : decode cX0_whoIsIn 23 = .ok (.iaload, 1) := by decide +kernel
theorem dX0_whoIsIn_24 : decode cX0_whoIsIn 24 = .ok (.iload_n 2, 1) := by decide +kernel
theorem dX0_whoIsIn_25 : decode cX0_whoIsIn 25 = .ok (.if_icmp .ne 5, 3) := by decide +kernel
theorem dX0_whoIsIn_28 : decode cX0_whoIsIn 28 = .ok (.iload_n 3, 1) := by decide +kernel
theorem dX0_whoIsIn_29 : decode cX0_whoIsIn 29 = .ok (.ireturn, 1) := by decide +kernel
theorem dX0_whoIsIn_30 : decode cX0_whoIsIn 30 = .ok (.iinc 3 1, 3) := by decide +kernel
theorem dX0_whoIsIn_33 : decode cX0_whoIsIn 33 = .ok (.goto (-31), 3) := by decide +kernel
theorem dX0_whoIsIn_36 : decode cX0_whoIsIn 36 = .ok (.iconst (-1), 1) := by decide +kernel
theorem dX0_whoIsIn_37 : decode cX0_whoIsIn 37 = .ok (.ireturn, 1) := by decide +kernel
theorem dX0_countIn_0 : decode cX0_countIn 0 = .ok (.iconst 0, 1) := by decide +kernel
theorem dX0_countIn_1 : decode cX0_countIn 1 = .ok (.istore_n 2, 1) := by decide +kernel
theorem dX0_countIn_2 : decode cX0_countIn 2 = .ok (.iconst 0, 1) := by decide +kernel
theorem dX0_countIn_3 : decode cX0_countIn 3 = .ok (.istore_n 3, 1) := by decide +kernel
theorem dX0_countIn_4 : decode cX0_countIn 4 = .ok (.iload_n 3, 1) := by decide +kernel
theorem dX0_countIn_5 : decode cX0_countIn 5 = .ok (.bipush 8, 2) := by decide +kernel
theorem dX0_countIn_7 : decode cX0_countIn 7 = .ok (.if_icmp .ge 27, 3) := by decide +kernel
theorem dX0_countIn_10 : decode cX0_countIn 10 = .ok (.iload_n 2, 1) := by decide +kernel
theorem dX0_countIn_11 : decode cX0_countIn 11 = .ok (.aload_n 0, 1) := by decide +kernel
theorem dX0_countIn_12 : decode cX0_countIn 12 = .ok (.getfield 18, 3) := by decide +kernel
theorem dX0_countIn_15 : decode cX0_countIn 15 = .ok (.iload_n 3, 1) := by decide +kernel
theorem dX0_countIn_16 : decode cX0_countIn 16 = .ok (.iaload, 1) := by decide +kernel
theorem dX0_countIn_17 : decode cX0_countIn 17 = .ok (.iload_n 1, 1) := by decide +kernel
theorem dX0_countIn_18 : decode cX0_countIn 18 = .ok (.if_icmp .ne 7, 3) := by decide +kernel
theorem dX0_countIn_21 : decode cX0_countIn 21 = .ok (.iconst 1, 1) := by decide +kernel
theorem dX0_countIn_22 : decode cX0_countIn 22 = .ok (.goto 4, 3) := by decide +kernel
theorem dX0_countIn_25 : decode cX0_countIn 25 = .ok (.iconst 0, 1) := by decide +kernel
theorem dX0_countIn_26 : decode cX0_countIn 26 = .ok (.iadd, 1) := by decide +kernel
theorem dX0_countIn_27 : decode cX0_countIn 27 = .ok (.istore_n 2, 1) := by decide +kernel
theorem dX0_countIn_28 : decode cX0_countIn 28 = .ok (.iinc 3 1, 3) := by decide +kernel
theorem dX0_countIn_31 : decode cX0_countIn 31 = .ok (.goto (-27), 3) := by decide +kernel
theorem dX0_countIn_34 : decode cX0_countIn 34 = .ok (.iload_n 2, 1) := by decide +kernel
theorem dX0_countIn_35 : decode cX0_countIn 35 = .ok (.ireturn, 1) := by decide +kernel
theorem dX0_countSet_0 : decode cX0_countSet 0 = .ok (.bipush 8, 2) := by decide +kernel
theorem dX0_countSet_2 : decode cX0_countSet 2 = .ok (.aload_n 0, 1) := by decide +kernel
theorem dX0_countSet_3 : decode cX0_countSet 3 = .ok (.iconst (-1), 1) := by decide +kernel
theorem dX0_countSet_4 : decode cX0_countSet 4 = .ok (.invokevirtual 60, 3) := by decide +kernel
theorem dX0_countSet_7 : decode cX0_countSet 7 = .ok (.isub, 1) := by decide +kernel
theorem dX0_countSet_8 : decode cX0_countSet 8 = .ok (.ireturn, 1) := by decide +kernel
theorem dX0_countFired_0 : decode cX0_countFired 0 = .ok (.iconst 0, 1) := by decide +kernel
theorem dX0_countFired_1 : decode cX0_countFired 1 = .ok (.istore_n 1, 1) := by decide +kernel
theorem dX0_countFired_2 : decode cX0_countFired 2 = .ok (.iconst 0, 1) := by decide +kernel
theorem dX0_countFired_3 : decode cX0_countFired 3 = .ok (.istore_n 2, 1) := by decide +kernel
theorem dX0_countFired_4 : decode cX0_countFired 4 = .ok (.iload_n 2, 1) := by decide +kernel
theorem dX0_countFired_5 : decode cX0_countFired 5 = .ok (.bipush 8, 2) := by decide +kernel
theorem dX0_countFired_7 : decode cX0_countFired 7 = .ok (.if_icmp .ge 25, 3) := by decide +kernel
theorem dX0_countFired_10 : decode cX0_countFired 10 = .ok (.iload_n 1, 1) := by decide +kernel
theorem dX0_countFired_11 : decode cX0_countFired 11 = .ok (.aload_n 0, 1) := by decide +kernel
theorem dX0_countFired_12 : decode cX0_countFired 12 = .ok (.iload_n 2, 1) := by decide +kernel
theorem dX0_countFired_13 : decode cX0_countFired 13 = .ok (.invokevirtual 64, 3) := by decide +kernel
theorem dX0_countFired_16 : decode cX0_countFired 16 = .ok (.ifCond .eq 7, 3) := by decide +kernel
theorem dX0_countFired_19 : decode cX0_countFired 19 = .ok (.iconst 1, 1) := by decide +kernel
theorem dX0_countFired_20 : decode cX0_countFired 20 = .ok (.goto 4, 3) := by decide +kernel
theorem dX0_countFired_23 : decode cX0_countFired 23 = .ok (.iconst 0, 1) := by decide +kernel
theorem dX0_countFired_24 : decode cX0_countFired 24 = .ok (.iadd, 1) := by decide +kernel
theorem dX0_countFired_25 : decode cX0_countFired 25 = .ok (.istore_n 1, 1) := by decide +kernel
theorem dX0_countFired_26 : decode cX0_countFired 26 = .ok (.iinc 2 1, 3) := by decide +kernel
theorem dX0_countFired_29 : decode cX0_countFired 29 = .ok (.goto (-25), 3) := by decide +kernel
theorem dX0_countFired_32 : decode cX0_countFired 32 = .ok (.iload_n 1, 1) := by decide +kernel
theorem dX0_countFired_33 : decode cX0_countFired 33 = .ok (.ireturn, 1) := by decide +kernel
theorem dX0_countCracked_0 : decode cX0_countCracked 0 = .ok (.iconst 0, 1) := by decide +kernel
theorem dX0_countCracked_1 : decode cX0_countCracked 1 = .ok (.istore_n 1, 1) := by decide +kernel
theorem dX0_countCracked_2 : decode cX0_countCracked 2 = .ok (.iconst 0, 1) := by decide +kernel
theorem dX0_countCracked_3 : decode cX0_countCracked 3 = .ok (.istore_n 2, 1) := by decide +kernel
theorem dX0_countCracked_4 : decode cX0_countCracked 4 = .ok (.iload_n 2, 1) := by decide +kernel
theorem dX0_countCracked_5 : decode cX0_countCracked 5 = .ok (.bipush 8, 2) := by decide +kernel
theorem dX0_countCracked_7 : decode cX0_countCracked 7 = .ok (.if_icmp .ge 18, 3) := by decide +kernel
theorem dX0_countCracked_10 : decode cX0_countCracked 10 = .ok (.iload_n 1, 1) := by decide +kernel
theorem dX0_countCracked_11 : decode cX0_countCracked 11 = .ok (.aload_n 0, 1) := by decide +kernel
theorem dX0_countCracked_12 : decode cX0_countCracked 12 = .ok (.getfield 28, 3) := by decide +kernel
theorem dX0_countCracked_15 : decode cX0_countCracked 15 = .ok (.iload_n 2, 1) := by decide +kernel
theorem dX0_countCracked_16 : decode cX0_countCracked 16 = .ok (.iaload, 1) := by decide +kernel
theorem dX0_countCracked_17 : decode cX0_countCracked 17 = .ok (.iadd, 1) := by decide +kernel
theorem dX0_countCracked_18 : decode cX0_countCracked 18 = .ok (.istore_n 1, 1) := by decide +kernel
theorem dX0_countCracked_19 : decode cX0_countCracked 19 = .ok (.iinc 2 1, 3) := by decide +kernel
theorem dX0_countCracked_22 : decode cX0_countCracked 22 = .ok (.goto (-18), 3) := by decide +kernel
theorem dX0_countCracked_25 : decode cX0_countCracked 25 = .ok (.iload_n 1, 1) := by decide +kernel
theorem dX0_countCracked_26 : decode cX0_countCracked 26 = .ok (.ireturn, 1) := by decide +kernel
theorem dX0_countLit_0 : decode cX0_countLit 0 = .ok (.iconst 0, 1) := by decide +kernel
theorem dX0_countLit_1 : decode cX0_countLit 1 = .ok (.istore_n 1, 1) := by decide +kernel
theorem dX0_countLit_2 : decode cX0_countLit 2 = .ok (.iconst 0, 1) := by decide +kernel
theorem dX0_countLit_3 : decode cX0_countLit 3 = .ok (.istore_n 2, 1) := by decide +kernel
theorem dX0_countLit_4 : decode cX0_countLit 4 = .ok (.iload_n 2, 1) := by decide +kernel
theorem dX0_countLit_5 : decode cX0_countLit 5 = .ok (.iconst 3, 1) := by decide +kernel
theorem dX0_countLit_6 : decode cX0_countLit 6 = .ok (.if_icmp .ge 27, 3) := by decide +kernel
theorem dX0_countLit_9 : decode cX0_countLit 9 = .ok (.iload_n 1, 1) := by decide +kernel
theorem dX0_countLit_10 : decode cX0_countLit 10 = .ok (.aload_n 0, 1) := by decide +kernel
theorem dX0_countLit_11 : decode cX0_countLit 11 = .ok (.getfield 34, 3) := by decide +kernel
theorem dX0_countLit_14 : decode cX0_countLit 14 = .ok (.iload_n 2, 1) := by decide +kernel
theorem dX0_countLit_15 : decode cX0_countLit 15 = .ok (.iaload, 1) := by decide +kernel
theorem dX0_countLit_16 : decode cX0_countLit 16 = .ok (.iconst (-1), 1) := by decide +kernel
theorem dX0_countLit_17 : decode cX0_countLit 17 = .ok (.if_icmp .ne 7, 3) := by decide +kernel
theorem dX0_countLit_20 : decode cX0_countLit 20 = .ok (.iconst 0, 1) := by decide +kernel
theorem dX0_countLit_21 : decode cX0_countLit 21 = .ok (.goto 4, 3) := by decide +kernel
theorem dX0_countLit_24 : decode cX0_countLit 24 = .ok (.iconst 1, 1) := by decide +kernel
theorem dX0_countLit_25 : decode cX0_countLit 25 = .ok (.iadd, 1) := by decide +kernel
theorem dX0_countLit_26 : decode cX0_countLit 26 = .ok (.istore_n 1, 1) := by decide +kernel
theorem dX0_countLit_27 : decode cX0_countLit 27 = .ok (.iinc 2 1, 3) := by decide +kernel
theorem dX0_countLit_30 : decode cX0_countLit 30 = .ok (.goto (-26), 3) := by decide +kernel
theorem dX0_countLit_33 : decode cX0_countLit 33 = .ok (.iload_n 1, 1) := by decide +kernel
theorem dX0_countLit_34 : decode cX0_countLit 34 = .ok (.ireturn, 1) := by decide +kernel
theorem dX0_takeOut_0 : decode cX0_takeOut 0 = .ok (.aload_n 0, 1) := by decide +kernel
theorem dX0_takeOut_1 : decode cX0_takeOut 1 = .ok (.getfield 18, 3) := by decide +kernel
theorem dX0_takeOut_4 : decode cX0_takeOut 4 = .ok (.iload_n 1, 1) := by decide +kernel
theorem dX0_takeOut_5 : decode cX0_takeOut 5 = .ok (.iconst (-1), 1) := by decide +kernel
theorem dX0_takeOut_6 : decode cX0_takeOut 6 = .ok (.iastore, 1) := by decide +kernel
theorem dX0_takeOut_7 : decode cX0_takeOut 7 = .ok (.aload_n 0, 1) := by decide +kernel
theorem dX0_takeOut_8 : decode cX0_takeOut 8 = .ok (.getfield 22, 3) := by decide +kernel
theorem dX0_takeOut_11 : decode cX0_takeOut 11 = .ok (.iload_n 1, 1) := by decide +kernel
theorem dX0_takeOut_12 : decode cX0_takeOut 12 = .ok (.iconst (-1), 1) := by decide +kernel
theorem dX0_takeOut_13 : decode cX0_takeOut 13 = .ok (.iastore, 1) := by decide +kernel
theorem dX0_takeOut_14 : decode cX0_takeOut 14 = .ok (.return_, 1) := by decide +kernel
theorem dX0_comeOut_0 : decode cX0_comeOut 0 = .ok (.aload_n 0, 1) := by decide +kernel
theorem dX0_comeOut_1 : decode cX0_comeOut 1 = .ok (.iload_n 1, 1) := by decide +kernel
theorem dX0_comeOut_2 : decode cX0_comeOut 2 = .ok (.invokevirtual 68, 3) := by decide +kernel
theorem dX0_comeOut_5 : decode cX0_comeOut 5 = .ok (.aload_n 0, 1) := by decide +kernel
theorem dX0_comeOut_6 : decode cX0_comeOut 6 = .ok (.getfield 25, 3) := by decide +kernel
theorem dX0_comeOut_9 : decode cX0_comeOut 9 = .ok (.iload_n 1, 1) := by decide +kernel
theorem dX0_comeOut_10 : decode cX0_comeOut 10 = .ok (.iload_n 2, 1) := by decide +kernel
theorem dX0_comeOut_11 : decode cX0_comeOut 11 = .ok (.iastore, 1) := by decide +kernel
theorem dX0_comeOut_12 : decode cX0_comeOut 12 = .ok (.aload_n 0, 1) := by decide +kernel
theorem dX0_comeOut_13 : decode cX0_comeOut 13 = .ok (.getfield 28, 3) := by decide +kernel
theorem dX0_comeOut_16 : decode cX0_comeOut 16 = .ok (.iload_n 1, 1) := by decide +kernel
theorem dX0_comeOut_17 : decode cX0_comeOut 17 = .ok (.iload_n 3, 1) := by decide +kernel
theorem dX0_comeOut_18 : decode cX0_comeOut 18 = .ok (.iastore, 1) := by decide +kernel
theorem dX0_comeOut_19 : decode cX0_comeOut 19 = .ok (.return_, 1) := by decide +kernel
theorem dX0_stick_0 : decode cX0_stick 0 = .ok (.aload_n 0, 1) := by decide +kernel
theorem dX0_stick_1 : decode cX0_stick 1 = .ok (.getfield 31, 3) := by decide +kernel
theorem dX0_stick_4 : decode cX0_stick 4 = .ok (.iload_n 1, 1) := by decide +kernel
theorem dX0_stick_5 : decode cX0_stick 5 = .ok (.dup2, 1) := by decide +kernel
theorem dX0_stick_6 : decode cX0_stick 6 = .ok (.iaload, 1) := by decide +kernel
theorem dX0_stick_7 : decode cX0_stick 7 = .ok (.iconst 1, 1) := by decide +kernel
theorem dX0_stick_8 : decode cX0_stick 8 = .ok (.iload_n 2, 1) := by decide +kernel
theorem dX0_stick_9 : decode cX0_stick 9 = .ok (.ishl, 1) := by decide +kernel
theorem dX0_stick_10 : decode cX0_stick 10 = .ok (.ior, 1) := by decide +kernel
theorem dX0_stick_11 : decode cX0_stick 11 = .ok (.iastore, 1) := by decide +kernel
theorem dX0_stick_12 : decode cX0_stick 12 = .ok (.aload_n 0, 1) := by decide +kernel
theorem dX0_stick_13 : decode cX0_stick 13 = .ok (.getfield 31, 3) := by decide +kernel
theorem dX0_stick_16 : decode cX0_stick 16 = .ok (.iload_n 2, 1) := by decide +kernel
theorem dX0_stick_17 : decode cX0_stick 17 = .ok (.dup2, 1) := by decide +kernel
theorem dX0_stick_18 : decode cX0_stick 18 = .ok (.iaload, 1) := by decide +kernel
theorem dX0_stick_19 : decode cX0_stick 19 = .ok (.iconst 1, 1) := by decide +kernel
theorem dX0_stick_20 : decode cX0_stick 20 = .ok (.iload_n 1, 1) := by decide +kernel
theorem dX0_stick_21 : decode cX0_stick 21 = .ok (.ishl, 1) := by decide +kernel
theorem dX0_stick_22 : decode cX0_stick 22 = .ok (.ior, 1) := by decide +kernel
theorem dX0_stick_23 : decode cX0_stick 23 = .ok (.iastore, 1) := by decide +kernel
theorem dX0_stick_24 : decode cX0_stick 24 = .ok (.return_, 1) := by decide +kernel
theorem dX0_brothersOf_0 : decode cX0_brothersOf 0 = .ok (.aload_n 0, 1) := by decide +kernel
theorem dX0_brothersOf_1 : decode cX0_brothersOf 1 = .ok (.iload_n 1, 1) := by decide +kernel
theorem dX0_brothersOf_2 : decode cX0_brothersOf 2 = .ok (.invokevirtual 64, 3) := by decide +kernel
theorem dX0_brothersOf_5 : decode cX0_brothersOf 5 = .ok (.ifCond .ne 5, 3) := by decide +kernel
theorem dX0_brothersOf_8 : decode cX0_brothersOf 8 = .ok (.iconst 0, 1) := by decide +kernel
theorem dX0_brothersOf_9 : decode cX0_brothersOf 9 = .ok (.ireturn, 1) := by decide +kernel
theorem dX0_brothersOf_10 : decode cX0_brothersOf 10 = .ok (.iconst 1, 1) := by decide +kernel
theorem dX0_brothersOf_11 : decode cX0_brothersOf 11 = .ok (.iload_n 1, 1) := by decide +kernel
theorem dX0_brothersOf_12 : decode cX0_brothersOf 12 = .ok (.ishl, 1) := by decide +kernel
theorem dX0_brothersOf_13 : decode cX0_brothersOf 13 = .ok (.istore_n 2, 1) := by decide +kernel
theorem dX0_brothersOf_14 : decode cX0_brothersOf 14 = .ok (.iconst 0, 1) := by decide +kernel
theorem dX0_brothersOf_15 : decode cX0_brothersOf 15 = .ok (.istore_n 3, 1) := by decide +kernel
theorem dX0_brothersOf_16 : decode cX0_brothersOf 16 = .ok (.iload_n 3, 1) := by decide +kernel
theorem dX0_brothersOf_17 : decode cX0_brothersOf 17 = .ok (.bipush 8, 2) := by decide +kernel
theorem dX0_brothersOf_19 : decode cX0_brothersOf 19 = .ok (.if_icmp .ge 45, 3) := by decide +kernel
theorem dX0_brothersOf_22 : decode cX0_brothersOf 22 = .ok (.iconst 0, 1) := by decide +kernel
theorem dX0_brothersOf_23 : decode cX0_brothersOf 23 = .ok (.istore 4, 2) := by decide +kernel
theorem dX0_brothersOf_25 : decode cX0_brothersOf 25 = .ok (.iload 4, 2) := by decide +kernel
theorem dX0_brothersOf_27 : decode cX0_brothersOf 27 = .ok (.bipush 8, 2) := by decide +kernel
theorem dX0_brothersOf_29 : decode cX0_brothersOf 29 = .ok (.if_icmp .ge 29, 3) := by decide +kernel
theorem dX0_brothersOf_32 : decode cX0_brothersOf 32 = .ok (.iload_n 2, 1) := by decide +kernel
theorem dX0_brothersOf_33 : decode cX0_brothersOf 33 = .ok (.iload 4, 2) := by decide +kernel
theorem dX0_brothersOf_35 : decode cX0_brothersOf 35 = .ok (.ishr, 1) := by decide +kernel
theorem dX0_brothersOf_36 : decode cX0_brothersOf 36 = .ok (.iconst 1, 1) := by decide +kernel
theorem dX0_brothersOf_37 : decode cX0_brothersOf 37 = .ok (.iand, 1) := by decide +kernel
theorem dX0_brothersOf_38 : decode cX0_brothersOf 38 = .ok (.iconst 1, 1) := by decide +kernel
theorem dX0_brothersOf_39 : decode cX0_brothersOf 39 = .ok (.if_icmp .ne 13, 3) := by decide +kernel
theorem dX0_brothersOf_42 : decode cX0_brothersOf 42 = .ok (.iload_n 2, 1) := by decide +kernel
theorem dX0_brothersOf_43 : decode cX0_brothersOf 43 = .ok (.aload_n 0, 1) := by decide +kernel
theorem dX0_brothersOf_44 : decode cX0_brothersOf 44 = .ok (.getfield 31, 3) := by decide +kernel
theorem dX0_brothersOf_47 : decode cX0_brothersOf 47 = .ok (.iload 4, 2) := by decide +kernel
theorem dX0_brothersOf_49 : decode cX0_brothersOf 49 = .ok (.iaload, 1) := by decide +kernel
theorem dX0_brothersOf_50 : decode cX0_brothersOf 50 = .ok (.ior, 1) := by decide +kernel
theorem dX0_brothersOf_51 : decode cX0_brothersOf 51 = .ok (.istore_n 2, 1) := by decide +kernel
theorem dX0_brothersOf_52 : decode cX0_brothersOf 52 = .ok (.iinc 4 1, 3) := by decide +kernel
theorem dX0_brothersOf_55 : decode cX0_brothersOf 55 = .ok (.goto (-30), 3) := by decide +kernel
theorem dX0_brothersOf_58 : decode cX0_brothersOf 58 = .ok (.iinc 3 1, 3) := by decide +kernel
theorem dX0_brothersOf_61 : decode cX0_brothersOf 61 = .ok (.goto (-45), 3) := by decide +kernel
theorem dX0_brothersOf_64 : decode cX0_brothersOf 64 = .ok (.iload_n 2, 1) := by decide +kernel
theorem dX0_brothersOf_65 : decode cX0_brothersOf 65 = .ok (.ireturn, 1) := by decide +kernel
theorem dX0_keepFiring_0 : decode cX0_keepFiring 0 = .ok (.aload_n 0, 1) := by decide +kernel
theorem dX0_keepFiring_1 : decode cX0_keepFiring 1 = .ok (.getfield 40, 3) := by decide +kernel
theorem dX0_keepFiring_4 : decode cX0_keepFiring 4 = .ok (.bipush 8, 2) := by decide +kernel
theorem dX0_keepFiring_6 : decode cX0_keepFiring 6 = .ok (.if_icmp .ge 62, 3) := by decide +kernel
theorem dX0_keepFiring_9 : decode cX0_keepFiring 9 = .ok (.aload_n 0, 1) := by decide +kernel
theorem dX0_keepFiring_10 : decode cX0_keepFiring 10 = .ok (.getfield 40, 3) := by decide +kernel
theorem dX0_keepFiring_13 : decode cX0_keepFiring 13 = .ok (.iconst 4, 1) := by decide +kernel
theorem dX0_keepFiring_14 : decode cX0_keepFiring 14 = .ok (.imul, 1) := by decide +kernel
theorem dX0_keepFiring_15 : decode cX0_keepFiring 15 = .ok (.istore 4, 2) := by decide +kernel
theorem dX0_keepFiring_17 : decode cX0_keepFiring 17 = .ok (.aload_n 0, 1) := by decide +kernel
theorem dX0_keepFiring_18 : decode cX0_keepFiring 18 = .ok (.getfield 37, 3) := by decide +kernel
theorem dX0_keepFiring_21 : decode cX0_keepFiring 21 = .ok (.iload 4, 2) := by decide +kernel
theorem dX0_keepFiring_23 : decode cX0_keepFiring 23 = .ok (.aload_n 0, 1) := by decide +kernel
theorem dX0_keepFiring_24 : decode cX0_keepFiring 24 = .ok (.getfield 9, 3) := by decide +kernel
theorem dX0_keepFiring_27 : decode cX0_keepFiring 27 = .ok (.iastore, 1) := by decide +kernel
theorem dX0_keepFiring_28 : decode cX0_keepFiring 28 = .ok (.aload_n 0, 1) := by decide +kernel
theorem dX0_keepFiring_29 : decode cX0_keepFiring 29 = .ok (.getfield 37, 3) := by decide +kernel
theorem dX0_keepFiring_32 : decode cX0_keepFiring 32 = .ok (.iload 4, 2) := by decide +kernel
theorem dX0_keepFiring_34 : decode cX0_keepFiring 34 = .ok (.iconst 1, 1) := by decide +kernel
theorem dX0_keepFiring_35 : decode cX0_keepFiring 35 = .ok (.iadd, 1) := by decide +kernel
theorem dX0_keepFiring_36 : decode cX0_keepFiring 36 = .ok (.iload_n 1, 1) := by decide +kernel
theorem dX0_keepFiring_37 : decode cX0_keepFiring 37 = .ok (.iastore, 1) := by decide +kernel
theorem dX0_keepFiring_38 : decode cX0_keepFiring 38 = .ok (.aload_n 0, 1) := by decide +kernel
theorem dX0_keepFiring_39 : decode cX0_keepFiring 39 = .ok (.getfield 37, 3) := by decide +kernel
theorem dX0_keepFiring_42 : decode cX0_keepFiring 42 = .ok (.iload 4, 2) := by decide +kernel
theorem dX0_keepFiring_44 : decode cX0_keepFiring 44 = .ok (.iconst 2, 1) := by decide +kernel
theorem dX0_keepFiring_45 : decode cX0_keepFiring 45 = .ok (.iadd, 1) := by decide +kernel
theorem dX0_keepFiring_46 : decode cX0_keepFiring 46 = .ok (.iload_n 2, 1) := by decide +kernel
theorem dX0_keepFiring_47 : decode cX0_keepFiring 47 = .ok (.iastore, 1) := by decide +kernel
theorem dX0_keepFiring_48 : decode cX0_keepFiring 48 = .ok (.aload_n 0, 1) := by decide +kernel
theorem dX0_keepFiring_49 : decode cX0_keepFiring 49 = .ok (.getfield 37, 3) := by decide +kernel
theorem dX0_keepFiring_52 : decode cX0_keepFiring 52 = .ok (.iload 4, 2) := by decide +kernel
theorem dX0_keepFiring_54 : decode cX0_keepFiring 54 = .ok (.iconst 3, 1) := by decide +kernel
theorem dX0_keepFiring_55 : decode cX0_keepFiring 55 = .ok (.iadd, 1) := by decide +kernel
theorem dX0_keepFiring_56 : decode cX0_keepFiring 56 = .ok (.iload_n 3, 1) := by decide +kernel
theorem dX0_keepFiring_57 : decode cX0_keepFiring 57 = .ok (.iastore, 1) := by decide +kernel
theorem dX0_keepFiring_58 : decode cX0_keepFiring 58 = .ok (.aload_n 0, 1) := by decide +kernel
theorem dX0_keepFiring_59 : decode cX0_keepFiring 59 = .ok (.dup, 1) := by decide +kernel
theorem dX0_keepFiring_60 : decode cX0_keepFiring 60 = .ok (.getfield 40, 3) := by decide +kernel
theorem dX0_keepFiring_63 : decode cX0_keepFiring 63 = .ok (.iconst 1, 1) := by decide +kernel
theorem dX0_keepFiring_64 : decode cX0_keepFiring 64 = .ok (.iadd, 1) := by decide +kernel
theorem dX0_keepFiring_65 : decode cX0_keepFiring 65 = .ok (.putfield 40, 3) := by decide +kernel
theorem dX0_keepFiring_68 : decode cX0_keepFiring 68 = .ok (.return_, 1) := by decide +kernel
theorem dX1_init_0 : decode cX1_init 0 = .ok (.aload_n 0, 1) := by decide +kernel
theorem dX1_init_1 : decode cX1_init 1 = .ok (.invokespecial 3, 3) := by decide +kernel
theorem dX1_init_4 : decode cX1_init 4 = .ok (.aload_n 0, 1) := by decide +kernel
theorem dX1_init_5 : decode cX1_init 5 = .ok (.iconst (-1), 1) := by decide +kernel
theorem dX1_init_6 : decode cX1_init 6 = .ok (.putfield 9, 3) := by decide +kernel
theorem dX1_init_9 : decode cX1_init 9 = .ok (.aload_n 0, 1) := by decide +kernel
theorem dX1_init_10 : decode cX1_init 10 = .ok (.iconst 0, 1) := by decide +kernel
theorem dX1_init_11 : decode cX1_init 11 = .ok (.putfield 15, 3) := by decide +kernel
theorem dX1_init_14 : decode cX1_init 14 = .ok (.aload_n 0, 1) := by decide +kernel
theorem dX1_init_15 : decode cX1_init 15 = .ok (.bipush 6, 2) := by decide +kernel
theorem dX1_init_17 : decode cX1_init 17 = .ok (.newarray .int, 2) := by decide +kernel
theorem dX1_init_19 : decode cX1_init 19 = .ok (.putfield 18, 3) := by decide +kernel
theorem dX1_init_22 : decode cX1_init 22 = .ok (.aload_n 0, 1) := by decide +kernel
theorem dX1_init_23 : decode cX1_init 23 = .ok (.iconst (-1), 1) := by decide +kernel
theorem dX1_init_24 : decode cX1_init 24 = .ok (.putfield 22, 3) := by decide +kernel
theorem dX1_init_27 : decode cX1_init 27 = .ok (.aload_n 0, 1) := by decide +kernel
theorem dX1_init_28 : decode cX1_init 28 = .ok (.iconst 0, 1) := by decide +kernel
theorem dX1_init_29 : decode cX1_init 29 = .ok (.putfield 25, 3) := by decide +kernel
theorem dX1_init_32 : decode cX1_init 32 = .ok (.aload_n 0, 1) := by decide +kernel
theorem dX1_init_33 : decode cX1_init 33 = .ok (.iconst 0, 1) := by decide +kernel
theorem dX1_init_34 : decode cX1_init 34 = .ok (.putfield 28, 3) := by decide +kernel
theorem dX1_init_37 : decode cX1_init 37 = .ok (.aload_n 0, 1) := by decide +kernel
theorem dX1_init_38 : decode cX1_init 38 = .ok (.iconst 0, 1) := by decide +kernel
theorem dX1_init_39 : decode cX1_init 39 = .ok (.putfield 31, 3) := by decide +kernel
theorem dX1_init_42 : decode cX1_init 42 = .ok (.aload_n 0, 1) := by decide +kernel
theorem dX1_init_43 : decode cX1_init 43 = .ok (.iconst 0, 1) := by decide +kernel
theorem dX1_init_44 : decode cX1_init 44 = .ok (.putfield 34, 3) := by decide +kernel
theorem dX1_init_47 : decode cX1_init 47 = .ok (.aload_n 0, 1) := by decide +kernel
theorem dX1_init_48 : decode cX1_init 48 = .ok (.bipush 6, 2) := by decide +kernel
theorem dX1_init_50 : decode cX1_init 50 = .ok (.newarray .int, 2) := by decide +kernel
theorem dX1_init_52 : decode cX1_init 52 = .ok (.putfield 37, 3) := by decide +kernel
theorem dX1_init_55 : decode cX1_init 55 = .ok (.aload_n 0, 1) := by decide +kernel
theorem dX1_init_56 : decode cX1_init 56 = .ok (.bipush 48, 2) := by decide +kernel
theorem dX1_init_58 : decode cX1_init 58 = .ok (.newarray .int, 2) := by decide +kernel
theorem dX1_init_60 : decode cX1_init 60 = .ok (.putfield 40, 3) := by decide +kernel
theorem dX1_init_63 : decode cX1_init 63 = .ok (.aload_n 0, 1) := by decide +kernel
theorem dX1_init_64 : decode cX1_init 64 = .ok (.bipush 8, 2) := by decide +kernel
theorem dX1_init_66 : decode cX1_init 66 = .ok (.newarray .int, 2) := by decide +kernel
theorem dX1_init_68 : decode cX1_init 68 = .ok (.putfield 43, 3) := by decide +kernel
theorem dX1_init_71 : decode cX1_init 71 = .ok (.aload_n 0, 1) := by decide +kernel
theorem dX1_init_72 : decode cX1_init 72 = .ok (.sipush 384, 3) := by decide +kernel
theorem dX1_init_75 : decode cX1_init 75 = .ok (.newarray .byte, 2) := by decide +kernel
theorem dX1_init_77 : decode cX1_init 77 = .ok (.putfield 46, 3) := by decide +kernel
theorem dX1_init_80 : decode cX1_init 80 = .ok (.aload_n 0, 1) := by decide +kernel
theorem dX1_init_81 : decode cX1_init 81 = .ok (.aload_n 1, 1) := by decide +kernel
theorem dX1_init_82 : decode cX1_init 82 = .ok (.putfield 50, 3) := by decide +kernel
theorem dX1_init_85 : decode cX1_init 85 = .ok (.return_, 1) := by decide +kernel
theorem dX1_forget_0 : decode cX1_forget 0 = .ok (.aload_n 0, 1) := by decide +kernel
theorem dX1_forget_1 : decode cX1_forget 1 = .ok (.iconst (-1), 1) := by decide +kernel
theorem dX1_forget_2 : decode cX1_forget 2 = .ok (.putfield 22, 3) := by decide +kernel
theorem dX1_forget_5 : decode cX1_forget 5 = .ok (.return_, 1) := by decide +kernel
theorem dX1_find_0 : decode cX1_find 0 = .ok (.aload_n 0, 1) := by decide +kernel
theorem dX1_find_1 : decode cX1_find 1 = .ok (.getfield 22, 3) := by decide +kernel
theorem dX1_find_4 : decode cX1_find 4 = .ok (.iload_n 2, 1) := by decide +kernel
theorem dX1_find_5 : decode cX1_find 5 = .ok (.if_icmp .ne 4, 3) := by decide +kernel
theorem dX1_find_8 : decode cX1_find 8 = .ok (.return_, 1) := by decide +kernel
theorem dX1_find_9 : decode cX1_find 9 = .ok (.aload_n 0, 1) := by decide +kernel
theorem dX1_find_10 : decode cX1_find 10 = .ok (.iload_n 2, 1) := by decide +kernel
theorem dX1_find_11 : decode cX1_find 11 = .ok (.putfield 22, 3) := by decide +kernel
theorem dX1_find_14 : decode cX1_find 14 = .ok (.aload_n 0, 1) := by decide +kernel
theorem dX1_find_15 : decode cX1_find 15 = .ok (.aload_n 1, 1) := by decide +kernel
theorem dX1_find_16 : decode cX1_find 16 = .ok (.getfield 54, 3) := by decide +kernel
theorem dX1_find_19 : decode cX1_find 19 = .ok (.putfield 25, 3) := by decide +kernel
theorem dX1_find_22 : decode cX1_find 22 = .ok (.aload_n 0, 1) := by decide +kernel
theorem dX1_find_23 : decode cX1_find 23 = .ok (.aload_n 0, 1) := by decide +kernel
theorem dX1_find_24 : decode cX1_find 24 = .ok (.getfield 50, 3) := by decide +kernel
theorem dX1_find_27 : decode cX1_find 27 = .ok (.getfield 57, 3) := by decide +kernel
theorem dX1_find_30 : decode cX1_find 30 = .ok (.getfield 63, 3) := by decide +kernel
theorem dX1_find_33 : decode cX1_find 33 = .ok (.iload_n 2, 1) := by decide +kernel
theorem dX1_find_34 : decode cX1_find 34 = .ok (.iaload, 1) := by decide +kernel
theorem dX1_find_35 : decode cX1_find 35 = .ok (.putfield 28, 3) := by decide +kernel
theorem dX1_find_38 : decode cX1_find 38 = .ok (.aload_n 0, 1) := by decide +kernel
theorem dX1_find_39 : decode cX1_find 39 = .ok (.iconst (-1), 1) := by decide +kernel
theorem dX1_find_40 : decode cX1_find 40 = .ok (.putfield 9, 3) := by decide +kernel
theorem dX1_find_43 : decode cX1_find 43 = .ok (.aload_n 0, 1) := by decide +kernel
theorem dX1_find_44 : decode cX1_find 44 = .ok (.iconst 0, 1) := by decide +kernel
theorem dX1_find_45 : decode cX1_find 45 = .ok (.putfield 15, 3) := by decide +kernel
theorem dX1_find_48 : decode cX1_find 48 = .ok (.iconst 0, 1) := by decide +kernel
theorem dX1_find_49 : decode cX1_find 49 = .ok (.istore_n 3, 1) := by decide +kernel
theorem dX1_find_50 : decode cX1_find 50 = .ok (.iconst 0, 1) := by decide +kernel
theorem dX1_find_51 : decode cX1_find 51 = .ok (.istore 4, 2) := by decide +kernel
theorem dX1_find_53 : decode cX1_find 53 = .ok (.iload 4, 2) := by decide +kernel
theorem dX1_find_55 : decode cX1_find 55 = .ok (.bipush 8, 2) := by decide +kernel
theorem dX1_find_57 : decode cX1_find 57 = .ok (.if_icmp .ge 31, 3) := by decide +kernel
theorem dX1_find_60 : decode cX1_find 60 = .ok (.iload_n 3, 1) := by decide +kernel
theorem dX1_find_61 : decode cX1_find 61 = .ok (.aload_n 1, 1) := by decide +kernel
theorem dX1_find_62 : decode cX1_find 62 = .ok (.getfield 68, 3) := by decide +kernel
theorem dX1_find_65 : decode cX1_find 65 = .ok (.iload 4, 2) := by decide +kernel
theorem dX1_find_67 : decode cX1_find 67 = .ok (.iaload, 1) := by decide +kernel
theorem dX1_find_68 : decode cX1_find 68 = .ok (.iload_n 2, 1) := by decide +kernel
theorem dX1_find_69 : decode cX1_find 69 = .ok (.if_icmp .ne 10, 3) := by decide +kernel
theorem dX1_find_72 : decode cX1_find 72 = .ok (.iconst 1, 1) := by decide +kernel
theorem dX1_find_73 : decode cX1_find 73 = .ok (.iload 4, 2) := by decide +kernel
theorem dX1_find_75 : decode cX1_find 75 = .ok (.ishl, 1) := by decide +kernel
theorem dX1_find_76 : decode cX1_find 76 = .ok (.goto 4, 3) := by decide +kernel
theorem dX1_find_79 : decode cX1_find 79 = .ok (.iconst 0, 1) := by decide +kernel
theorem dX1_find_80 : decode cX1_find 80 = .ok (.ior, 1) := by decide +kernel
theorem dX1_find_81 : decode cX1_find 81 = .ok (.istore_n 3, 1) := by decide +kernel
theorem dX1_find_82 : decode cX1_find 82 = .ok (.iinc 4 1, 3) := by decide +kernel
theorem dX1_find_85 : decode cX1_find 85 = .ok (.goto (-32), 3) := by decide +kernel
theorem dX1_find_88 : decode cX1_find 88 = .ok (.bipush 20, 2) := by decide +kernel
theorem dX1_find_90 : decode cX1_find 90 = .ok (.istore 4, 2) := by decide +kernel
theorem dX1_find_92 : decode cX1_find 92 = .ok (.iload 4, 2) := by decide +kernel
theorem dX1_find_94 : decode cX1_find 94 = .ok (.ifCond .lt 24, 3) := by decide +kernel
theorem dX1_find_97 : decode cX1_find 97 = .ok (.iload_n 3, 1) := by decide +kernel
theorem dX1_find_98 : decode cX1_find 98 = .ok (.ifCond .eq 20, 3) := by decide +kernel
theorem dX1_find_101 : decode cX1_find 101 = .ok (.aload_n 0, 1) := by decide +kernel
theorem dX1_find_102 : decode cX1_find 102 = .ok (.iload 4, 2) := by decide +kernel
theorem dX1_find_104 : decode cX1_find 104 = .ok (.putfield 31, 3) := by decide +kernel
theorem dX1_find_107 : decode cX1_find 107 = .ok (.aload_n 0, 1) := by decide +kernel
theorem dX1_find_108 : decode cX1_find 108 = .ok (.iload_n 3, 1) := by decide +kernel
theorem dX1_find_109 : decode cX1_find 109 = .ok (.invokevirtual 71, 3) := by decide +kernel
theorem dX1_find_112 : decode cX1_find 112 = .ok (.iinc 4 (-1), 3) := by decide +kernel
theorem dX1_find_115 : decode cX1_find 115 = .ok (.goto (-23), 3) := by decide +kernel
theorem dX1_find_118 : decode cX1_find 118 = .ok (.return_, 1) := by decide +kernel
theorem dX1_tryHeat_0 : decode cX1_tryHeat 0 = .ok (.iconst 0, 1) := by decide +kernel
theorem dX1_tryHeat_1 : decode cX1_tryHeat 1 = .ok (.istore_n 2, 1) := by decide +kernel
theorem dX1_tryHeat_2 : decode cX1_tryHeat 2 = .ok (.iconst 0, 1) := by decide +kernel
theorem dX1_tryHeat_3 : decode cX1_tryHeat 3 = .ok (.istore_n 3, 1) := by decide +kernel
theorem dX1_tryHeat_4 : decode cX1_tryHeat 4 = .ok (.iload_n 3, 1) := by decide +kernel
theorem dX1_tryHeat_5 : decode cX1_tryHeat 5 = .ok (.bipush 8, 2) := by decide +kernel
theorem dX1_tryHeat_7 : decode cX1_tryHeat 7 = .ok (.if_icmp .ge 43, 3) := by decide +kernel
theorem dX1_tryHeat_10 : decode cX1_tryHeat 10 = .ok (.iload_n 1, 1) := by decide +kernel
theorem dX1_tryHeat_11 : decode cX1_tryHeat 11 = .ok (.iload_n 3, 1) := by decide +kernel
theorem dX1_tryHeat_12 : decode cX1_tryHeat 12 = .ok (.ishr, 1) := by decide +kernel
theorem dX1_tryHeat_13 : decode cX1_tryHeat 13 = .ok (.iconst 1, 1) := by decide +kernel
theorem dX1_tryHeat_14 : decode cX1_tryHeat 14 = .ok (.iand, 1) := by decide +kernel
theorem dX1_tryHeat_15 : decode cX1_tryHeat 15 = .ok (.iconst 1, 1) := by decide +kernel
theorem dX1_tryHeat_16 : decode cX1_tryHeat 16 = .ok (.if_icmp .ne 28, 3) := by decide +kernel
theorem dX1_tryHeat_19 : decode cX1_tryHeat 19 = .ok (.aload_n 0, 1) := by decide +kernel
theorem dX1_tryHeat_20 : decode cX1_tryHeat 20 = .ok (.iload_n 3, 1) := by decide +kernel
theorem dX1_tryHeat_21 : decode cX1_tryHeat 21 = .ok (.invokevirtual 75, 3) := by decide +kernel
theorem dX1_tryHeat_24 : decode cX1_tryHeat 24 = .ok (.aload_n 0, 1) := by decide +kernel
theorem dX1_tryHeat_25 : decode cX1_tryHeat 25 = .ok (.getfield 43, 3) := by decide +kernel
theorem dX1_tryHeat_28 : decode cX1_tryHeat 28 = .ok (.iload_n 3, 1) := by decide +kernel
theorem dX1_tryHeat_29 : decode cX1_tryHeat 29 = .ok (.iaload, 1) := by decide +kernel
theorem dX1_tryHeat_30 : decode cX1_tryHeat 30 = .ok (.iconst (-1), 1) := by decide +kernel
theorem dX1_tryHeat_31 : decode cX1_tryHeat 31 = .ok (.if_icmp .ne 4, 3) := by decide +kernel
theorem dX1_tryHeat_34 : decode cX1_tryHeat 34 = .ok (.return_, 1) := by decide +kernel
theorem dX1_tryHeat_35 : decode cX1_tryHeat 35 = .ok (.iload_n 2, 1) := by decide +kernel
theorem dX1_tryHeat_36 : decode cX1_tryHeat 36 = .ok (.aload_n 0, 1) := by decide +kernel
theorem dX1_tryHeat_37 : decode cX1_tryHeat 37 = .ok (.getfield 43, 3) := by decide +kernel
theorem dX1_tryHeat_40 : decode cX1_tryHeat 40 = .ok (.iload_n 3, 1) := by decide +kernel
theorem dX1_tryHeat_41 : decode cX1_tryHeat 41 = .ok (.iaload, 1) := by decide +kernel
theorem dX1_tryHeat_42 : decode cX1_tryHeat 42 = .ok (.iadd, 1) := by decide +kernel
theorem dX1_tryHeat_43 : decode cX1_tryHeat 43 = .ok (.istore_n 2, 1) := by decide +kernel
theorem dX1_tryHeat_44 : decode cX1_tryHeat 44 = .ok (.iinc 3 1, 3) := by decide +kernel
theorem dX1_tryHeat_47 : decode cX1_tryHeat 47 = .ok (.goto (-43), 3) := by decide +kernel
theorem dX1_tryHeat_50 : decode cX1_tryHeat 50 = .ok (.aload_n 0, 1) := by decide +kernel
theorem dX1_tryHeat_51 : decode cX1_tryHeat 51 = .ok (.aload_n 0, 1) := by decide +kernel
theorem dX1_tryHeat_52 : decode cX1_tryHeat 52 = .ok (.getfield 15, 3) := by decide +kernel
theorem dX1_tryHeat_55 : decode cX1_tryHeat 55 = .ok (.iconst 1, 1) := by decide +kernel
theorem dX1_tryHeat_56 : decode cX1_tryHeat 56 = .ok (.isub, 1) := by decide +kernel
theorem dX1_tryHeat_57 : decode cX1_tryHeat 57 = .ok (.putfield 34, 3) := by decide +kernel
theorem dX1_tryHeat_60 : decode cX1_tryHeat 60 = .ok (.iload_n 2, 1) := by decide +kernel
theorem dX1_tryHeat_61 : decode cX1_tryHeat 61 = .ok (.aload_n 0, 1) := by decide +kernel
theorem dX1_tryHeat_62 : decode cX1_tryHeat 62 = .ok (.getfield 34, 3) := by decide +kernel
theorem dX1_tryHeat_65 : decode cX1_tryHeat 65 = .ok (.if_icmp .le 18, 3) := by decide +kernel
theorem dX1_tryHeat_68 : decode cX1_tryHeat 68 = .ok (.aload_n 0, 1) := by decide +kernel
theorem dX1_tryHeat_69 : decode cX1_tryHeat 69 = .ok (.getfield 46, 3) := by decide +kernel
theorem dX1_tryHeat_72 : decode cX1_tryHeat 72 = .ok (.iconst 0, 1) := by decide +kernel
theorem dX1_tryHeat_73 : decode cX1_tryHeat 73 = .ok (.invokestatic 78, 3) := by decide +kernel
theorem dX1_tryHeat_76 : decode cX1_tryHeat 76 = .ok (.aload_n 0, 1) := by decide +kernel
theorem dX1_tryHeat_77 : decode cX1_tryHeat 77 = .ok (.iconst 0, 1) := by decide +kernel
theorem dX1_tryHeat_78 : decode cX1_tryHeat 78 = .ok (.iload_n 1, 1) := by decide +kernel
theorem dX1_tryHeat_79 : decode cX1_tryHeat 79 = .ok (.iload_n 2, 1) := by decide +kernel
theorem dX1_tryHeat_80 : decode cX1_tryHeat 80 = .ok (.invokevirtual 84, 3) := by decide +kernel
theorem dX1_tryHeat_83 : decode cX1_tryHeat 83 = .ok (.return_, 1) := by decide +kernel
theorem dX1_ringEverywhere_0 : decode cX1_ringEverywhere 0 = .ok (.aload_n 0, 1) := by decide +kernel
theorem dX1_ringEverywhere_1 : decode cX1_ringEverywhere 1 = .ok (.getfield 43, 3) := by decide +kernel
theorem dX1_ringEverywhere_4 : decode cX1_ringEverywhere 4 = .ok (.iload_n 1, 1) := by decide +kernel
theorem dX1_ringEverywhere_5 : decode cX1_ringEverywhere 5 = .ok (.iconst (-1), 1) := by decide +kernel
theorem dX1_ringEverywhere_6 : decode cX1_ringEverywhere 6 = .ok (.iastore, 1) := by decide +kernel
theorem dX1_ringEverywhere_7 : decode cX1_ringEverywhere 7 = .ok (.iconst 0, 1) := by decide +kernel
theorem dX1_ringEverywhere_8 : decode cX1_ringEverywhere 8 = .ok (.istore_n 2, 1) := by decide +kernel
theorem dX1_ringEverywhere_9 : decode cX1_ringEverywhere 9 = .ok (.iload_n 2, 1) := by decide +kernel
theorem dX1_ringEverywhere_10 : decode cX1_ringEverywhere 10 = .ok (.aload_n 0, 1) := by decide +kernel
theorem dX1_ringEverywhere_11 : decode cX1_ringEverywhere 11 = .ok (.getfield 28, 3) := by decide +kernel
theorem dX1_ringEverywhere_14 : decode cX1_ringEverywhere 14 = .ok (.if_icmp .ge 78, 3) := by decide +kernel
theorem dX1_ringEverywhere_17 : decode cX1_ringEverywhere 17 = .ok (.aload_n 0, 1) := by decide +kernel
theorem dX1_ringEverywhere_18 : decode cX1_ringEverywhere 18 = .ok (.getfield 50, 3) := by decide +kernel
theorem dX1_ringEverywhere_21 : decode cX1_ringEverywhere 21 = .ok (.iload_n 1, 1) := by decide +kernel
theorem dX1_ringEverywhere_22 : decode cX1_ringEverywhere 22 = .ok (.aload_n 0, 1) := by decide +kernel
theorem dX1_ringEverywhere_23 : decode cX1_ringEverywhere 23 = .ok (.getfield 31, 3) := by decide +kernel
theorem dX1_ringEverywhere_26 : decode cX1_ringEverywhere 26 = .ok (.iload_n 2, 1) := by decide +kernel
theorem dX1_ringEverywhere_27 : decode cX1_ringEverywhere 27 = .ok (.aload_n 0, 1) := by decide +kernel
theorem dX1_ringEverywhere_28 : decode cX1_ringEverywhere 28 = .ok (.getfield 25, 3) := by decide +kernel
theorem dX1_ringEverywhere_31 : decode cX1_ringEverywhere 31 = .ok (.invokevirtual 88, 3) := by decide +kernel
theorem dX1_ringEverywhere_34 : decode cX1_ringEverywhere 34 = .ok (.istore_n 3, 1) := by decide +kernel
theorem dX1_ringEverywhere_35 : decode cX1_ringEverywhere 35 = .ok (.aload_n 0, 1) := by decide +kernel
theorem dX1_ringEverywhere_36 : decode cX1_ringEverywhere 36 = .ok (.getfield 50, 3) := by decide +kernel
theorem dX1_ringEverywhere_39 : decode cX1_ringEverywhere 39 = .ok (.iload_n 1, 1) := by decide +kernel
theorem dX1_ringEverywhere_40 : decode cX1_ringEverywhere 40 = .ok (.aload_n 0, 1) := by decide +kernel
theorem dX1_ringEverywhere_41 : decode cX1_ringEverywhere 41 = .ok (.getfield 31, 3) := by decide +kernel
theorem dX1_ringEverywhere_44 : decode cX1_ringEverywhere 44 = .ok (.iload_n 2, 1) := by decide +kernel
theorem dX1_ringEverywhere_45 : decode cX1_ringEverywhere 45 = .ok (.aload_n 0, 1) := by decide +kernel
theorem dX1_ringEverywhere_46 : decode cX1_ringEverywhere 46 = .ok (.getfield 25, 3) := by decide +kernel
theorem dX1_ringEverywhere_49 : decode cX1_ringEverywhere 49 = .ok (.iload_n 3, 1) := by decide +kernel
theorem dX1_ringEverywhere_50 : decode cX1_ringEverywhere 50 = .ok (.invokevirtual 92, 3) := by decide +kernel
theorem dX1_ringEverywhere_53 : decode cX1_ringEverywhere 53 = .ok (.ifCond .eq 5, 3) := by decide +kernel
theorem dX1_ringEverywhere_56 : decode cX1_ringEverywhere 56 = .ok (.iconst (-1), 1) := by decide +kernel
theorem dX1_ringEverywhere_57 : decode cX1_ringEverywhere 57 = .ok (.istore_n 3, 1) := by decide +kernel
theorem dX1_ringEverywhere_58 : decode cX1_ringEverywhere 58 = .ok (.aload_n 0, 1) := by decide +kernel
theorem dX1_ringEverywhere_59 : decode cX1_ringEverywhere 59 = .ok (.getfield 40, 3) := by decide +kernel
theorem dX1_ringEverywhere_62 : decode cX1_ringEverywhere 62 = .ok (.iload_n 1, 1) := by decide +kernel
theorem dX1_ringEverywhere_63 : decode cX1_ringEverywhere 63 = .ok (.bipush 6, 2) := by decide +kernel
theorem dX1_ringEverywhere_65 : decode cX1_ringEverywhere 65 = .ok (.imul, 1) := by decide +kernel
theorem dX1_ringEverywhere_66 : decode cX1_ringEverywhere 66 = .ok (.iload_n 2, 1) := by decide +kernel
theorem dX1_ringEverywhere_67 : decode cX1_ringEverywhere 67 = .ok (.iadd, 1) := by decide +kernel
theorem dX1_ringEverywhere_68 : decode cX1_ringEverywhere 68 = .ok (.iload_n 3, 1) := by decide +kernel
theorem dX1_ringEverywhere_69 : decode cX1_ringEverywhere 69 = .ok (.iastore, 1) := by decide +kernel
theorem dX1_ringEverywhere_70 : decode cX1_ringEverywhere 70 = .ok (.aload_n 0, 1) := by decide +kernel
theorem dX1_ringEverywhere_71 : decode cX1_ringEverywhere 71 = .ok (.getfield 43, 3) := by decide +kernel
theorem dX1_ringEverywhere_74 : decode cX1_ringEverywhere 74 = .ok (.iload_n 1, 1) := by decide +kernel
theorem dX1_ringEverywhere_75 : decode cX1_ringEverywhere 75 = .ok (.aload_n 0, 1) := by decide +kernel
theorem dX1_ringEverywhere_76 : decode cX1_ringEverywhere 76 = .ok (.getfield 43, 3) := by decide +kernel
theorem dX1_ringEverywhere_79 : decode cX1_ringEverywhere 79 = .ok (.iload_n 1, 1) := by decide +kernel
theorem dX1_ringEverywhere_80 : decode cX1_ringEverywhere 80 = .ok (.iaload, 1) := by decide +kernel
theorem dX1_ringEverywhere_81 : decode cX1_ringEverywhere 81 = .ok (.iload_n 3, 1) := by decide +kernel
theorem dX1_ringEverywhere_82 : decode cX1_ringEverywhere 82 = .ok (.invokestatic 96, 3) := by decide +kernel
theorem dX1_ringEverywhere_85 : decode cX1_ringEverywhere 85 = .ok (.iastore, 1) := by decide +kernel
theorem dX1_ringEverywhere_86 : decode cX1_ringEverywhere 86 = .ok (.iinc 2 1, 3) := by decide +kernel
theorem dX1_ringEverywhere_89 : decode cX1_ringEverywhere 89 = .ok (.goto (-80), 3) := by decide +kernel
theorem dX1_ringEverywhere_92 : decode cX1_ringEverywhere 92 = .ok (.return_, 1) := by decide +kernel
theorem dX1_fillFrom_0 : decode cX1_fillFrom 0 = .ok (.iload_n 1, 1) := by decide +kernel
theorem dX1_fillFrom_1 : decode cX1_fillFrom 1 = .ok (.aload_n 0, 1) := by decide +kernel
theorem dX1_fillFrom_2 : decode cX1_fillFrom 2 = .ok (.getfield 28, 3) := by decide +kernel
theorem dX1_fillFrom_5 : decode cX1_fillFrom 5 = .ok (.if_icmp .lt 9, 3) := by decide +kernel
theorem dX1_fillFrom_8 : decode cX1_fillFrom 8 = .ok (.aload_n 0, 1) := by decide +kernel
theorem dX1_fillFrom_9 : decode cX1_fillFrom 9 = .ok (.iload_n 3, 1) := by decide +kernel
theorem dX1_fillFrom_10 : decode cX1_fillFrom 10 = .ok (.invokevirtual 102, 3) := by decide +kernel
theorem dX1_fillFrom_13 : decode cX1_fillFrom 13 = .ok (.return_, 1) := by decide +kernel
theorem dX1_fillFrom_14 : decode cX1_fillFrom 14 = .ok (.aload_n 0, 1) := by decide +kernel
theorem dX1_fillFrom_15 : decode cX1_fillFrom 15 = .ok (.getfield 28, 3) := by decide +kernel
theorem dX1_fillFrom_18 : decode cX1_fillFrom 18 = .ok (.iload_n 1, 1) := by decide +kernel
theorem dX1_fillFrom_19 : decode cX1_fillFrom 19 = .ok (.isub, 1) := by decide +kernel
theorem dX1_fillFrom_20 : decode cX1_fillFrom 20 = .ok (.iload_n 2, 1) := by decide +kernel
theorem dX1_fillFrom_21 : decode cX1_fillFrom 21 = .ok (.invokestatic 105, 3) := by decide +kernel
theorem dX1_fillFrom_24 : decode cX1_fillFrom 24 = .ok (.if_icmp .le 19, 3) := by decide +kernel
theorem dX1_fillFrom_27 : decode cX1_fillFrom 27 = .ok (.aload_n 0, 1) := by decide +kernel
theorem dX1_fillFrom_28 : decode cX1_fillFrom 28 = .ok (.getfield 37, 3) := by decide +kernel
theorem dX1_fillFrom_31 : decode cX1_fillFrom 31 = .ok (.iload_n 1, 1) := by decide +kernel
theorem dX1_fillFrom_32 : decode cX1_fillFrom 32 = .ok (.iconst (-1), 1) := by decide +kernel
theorem dX1_fillFrom_33 : decode cX1_fillFrom 33 = .ok (.iastore, 1) := by decide +kernel
theorem dX1_fillFrom_34 : decode cX1_fillFrom 34 = .ok (.aload_n 0, 1) := by decide +kernel
theorem dX1_fillFrom_35 : decode cX1_fillFrom 35 = .ok (.iload_n 1, 1) := by decide +kernel
theorem dX1_fillFrom_36 : decode cX1_fillFrom 36 = .ok (.iconst 1, 1) := by decide +kernel
theorem dX1_fillFrom_37 : decode cX1_fillFrom 37 = .ok (.iadd, 1) := by decide +kernel
theorem dX1_fillFrom_38 : decode cX1_fillFrom 38 = .ok (.iload_n 2, 1) := by decide +kernel
theorem dX1_fillFrom_39 : decode cX1_fillFrom 39 = .ok (.iload_n 3, 1) := by decide +kernel
theorem dX1_fillFrom_40 : decode cX1_fillFrom 40 = .ok (.invokevirtual 84, 3) := by decide +kernel
theorem dX1_fillFrom_43 : decode cX1_fillFrom 43 = .ok (.iconst 0, 1) := by decide +kernel
theorem dX1_fillFrom_44 : decode cX1_fillFrom 44 = .ok (.istore 4, 2) := by decide +kernel
theorem dX1_fillFrom_46 : decode cX1_fillFrom 46 = .ok (.iload 4, 2) := by decide +kernel
theorem dX1_fillFrom_48 : decode cX1_fillFrom 48 = .ok (.bipush 8, 2) := by decide +kernel
theorem dX1_fillFrom_50 : decode cX1_fillFrom 50 = .ok (.if_icmp .ge 97, 3) := by decide +kernel
theorem dX1_fillFrom_53 : decode cX1_fillFrom 53 = .ok (.iload_n 2, 1) := by decide +kernel
theorem dX1_fillFrom_54 : decode cX1_fillFrom 54 = .ok (.iload 4, 2) := by decide +kernel
theorem dX1_fillFrom_56 : decode cX1_fillFrom 56 = .ok (.ishr, 1) := by decide +kernel
theorem dX1_fillFrom_57 : decode cX1_fillFrom 57 = .ok (.iconst 1, 1) := by decide +kernel
theorem dX1_fillFrom_58 : decode cX1_fillFrom 58 = .ok (.iand, 1) := by decide +kernel
theorem dX1_fillFrom_59 : decode cX1_fillFrom 59 = .ok (.iconst 1, 1) := by decide +kernel
theorem dX1_fillFrom_60 : decode cX1_fillFrom 60 = .ok (.if_icmp .ne 81, 3) := by decide +kernel
theorem dX1_fillFrom_63 : decode cX1_fillFrom 63 = .ok (.aload_n 0, 1) := by decide +kernel
theorem dX1_fillFrom_64 : decode cX1_fillFrom 64 = .ok (.getfield 40, 3) := by decide +kernel
theorem dX1_fillFrom_67 : decode cX1_fillFrom 67 = .ok (.iload 4, 2) := by decide +kernel
theorem dX1_fillFrom_69 : decode cX1_fillFrom 69 = .ok (.bipush 6, 2) := by decide +kernel
theorem dX1_fillFrom_71 : decode cX1_fillFrom 71 = .ok (.imul, 1) := by decide +kernel
theorem dX1_fillFrom_72 : decode cX1_fillFrom 72 = .ok (.iload_n 1, 1) := by decide +kernel
theorem dX1_fillFrom_73 : decode cX1_fillFrom 73 = .ok (.iadd, 1) := by decide +kernel
theorem dX1_fillFrom_74 : decode cX1_fillFrom 74 = .ok (.iaload, 1) := by decide +kernel
theorem dX1_fillFrom_75 : decode cX1_fillFrom 75 = .ok (.istore 5, 2) := by decide +kernel
theorem dX1_fillFrom_77 : decode cX1_fillFrom 77 = .ok (.iload_n 3, 1) := by decide +kernel
theorem dX1_fillFrom_78 : decode cX1_fillFrom 78 = .ok (.aload_n 0, 1) := by decide +kernel
theorem dX1_fillFrom_79 : decode cX1_fillFrom 79 = .ok (.getfield 43, 3) := by decide +kernel
theorem dX1_fillFrom_82 : decode cX1_fillFrom 82 = .ok (.iload 4, 2) := by decide +kernel
theorem dX1_fillFrom_84 : decode cX1_fillFrom 84 = .ok (.iaload, 1) := by decide +kernel
theorem dX1_fillFrom_85 : decode cX1_fillFrom 85 = .ok (.isub, 1) := by decide +kernel
theorem dX1_fillFrom_86 : decode cX1_fillFrom 86 = .ok (.iload 5, 2) := by decide +kernel
theorem dX1_fillFrom_88 : decode cX1_fillFrom 88 = .ok (.iadd, 1) := by decide +kernel
theorem dX1_fillFrom_89 : decode cX1_fillFrom 89 = .ok (.istore 6, 2) := by decide +kernel
theorem dX1_fillFrom_91 : decode cX1_fillFrom 91 = .ok (.iload 5, 2) := by decide +kernel
theorem dX1_fillFrom_93 : decode cX1_fillFrom 93 = .ok (.iconst (-1), 1) := by decide +kernel
theorem dX1_fillFrom_94 : decode cX1_fillFrom 94 = .ok (.if_icmp .eq 47, 3) := by decide +kernel
theorem dX1_fillFrom_97 : decode cX1_fillFrom 97 = .ok (.iload 6, 2) := by decide +kernel
theorem dX1_fillFrom_99 : decode cX1_fillFrom 99 = .ok (.aload_n 0, 1) := by decide +kernel
theorem dX1_fillFrom_100 : decode cX1_fillFrom 100 = .ok (.getfield 34, 3) := by decide +kernel
theorem dX1_fillFrom_103 : decode cX1_fillFrom 103 = .ok (.if_icmp .le 38, 3) := by decide +kernel
theorem dX1_fillFrom_106 : decode cX1_fillFrom 106 = .ok (.aload_n 0, 1) := by decide +kernel
theorem dX1_fillFrom_107 : decode cX1_fillFrom 107 = .ok (.iload 4, 2) := by decide +kernel
theorem dX1_fillFrom_109 : decode cX1_fillFrom 109 = .ok (.iload_n 1, 1) := by decide +kernel
theorem dX1_fillFrom_110 : decode cX1_fillFrom 110 = .ok (.invokevirtual 111, 3) := by decide +kernel
theorem dX1_fillFrom_113 : decode cX1_fillFrom 113 = .ok (.ifCond .ne 28, 3) := by decide +kernel
theorem dX1_fillFrom_116 : decode cX1_fillFrom 116 = .ok (.aload_n 0, 1) := by decide +kernel
theorem dX1_fillFrom_117 : decode cX1_fillFrom 117 = .ok (.getfield 37, 3) := by decide +kernel
theorem dX1_fillFrom_120 : decode cX1_fillFrom 120 = .ok (.iload_n 1, 1) := by decide +kernel
theorem dX1_fillFrom_121 : decode cX1_fillFrom 121 = .ok (.iload 4, 2) := by decide +kernel
theorem dX1_fillFrom_123 : decode cX1_fillFrom 123 = .ok (.iastore, 1) := by decide +kernel
theorem dX1_fillFrom_124 : decode cX1_fillFrom 124 = .ok (.aload_n 0, 1) := by decide +kernel
theorem dX1_fillFrom_125 : decode cX1_fillFrom 125 = .ok (.iload_n 1, 1) := by decide +kernel
theorem dX1_fillFrom_126 : decode cX1_fillFrom 126 = .ok (.iconst 1, 1) := by decide +kernel
theorem dX1_fillFrom_127 : decode cX1_fillFrom 127 = .ok (.iadd, 1) := by decide +kernel
theorem dX1_fillFrom_128 : decode cX1_fillFrom 128 = .ok (.iload_n 2, 1) := by decide +kernel
theorem dX1_fillFrom_129 : decode cX1_fillFrom 129 = .ok (.iconst 1, 1) := by decide +kernel
theorem dX1_fillFrom_130 : decode cX1_fillFrom 130 = .ok (.iload 4, 2) := by decide +kernel
theorem dX1_fillFrom_132 : decode cX1_fillFrom 132 = .ok (.ishl, 1) := by decide +kernel
theorem dX1_fillFrom_133 : decode cX1_fillFrom 133 = .ok (.iconst (-1), 1) := by decide +kernel
theorem dX1_fillFrom_134 : decode cX1_fillFrom 134 = .ok (.ixor, 1) := by decide +kernel
theorem dX1_fillFrom_135 : decode cX1_fillFrom 135 = .ok (.iand, 1) := by decide +kernel
theorem dX1_fillFrom_136 : decode cX1_fillFrom 136 = .ok (.iload 6, 2) := by decide +kernel
theorem dX1_fillFrom_138 : decode cX1_fillFrom 138 = .ok (.invokevirtual 84, 3) := by decide +kernel
theorem dX1_fillFrom_141 : decode cX1_fillFrom 141 = .ok (.iinc 4 1, 3) := by decide +kernel
theorem dX1_fillFrom_144 : decode cX1_fillFrom 144 = .ok (.goto (-98), 3) := by decide +kernel
theorem dX1_fillFrom_147 : decode cX1_fillFrom 147 = .ok (.return_, 1) := by decide +kernel
theorem dX1_keepRow_0 : decode cX1_keepRow 0 = .ok (.iload_n 1, 1) := by decide +kernel
theorem dX1_keepRow_1 : decode cX1_keepRow 1 = .ok (.aload_n 0, 1) := by decide +kernel
theorem dX1_keepRow_2 : decode cX1_keepRow 2 = .ok (.getfield 34, 3) := by decide +kernel
theorem dX1_keepRow_5 : decode cX1_keepRow 5 = .ok (.if_icmp .le 38, 3) := by decide +kernel
theorem dX1_keepRow_8 : decode cX1_keepRow 8 = .ok (.aload_n 0, 1) := by decide +kernel
theorem dX1_keepRow_9 : decode cX1_keepRow 9 = .ok (.iload_n 1, 1) := by decide +kernel
theorem dX1_keepRow_10 : decode cX1_keepRow 10 = .ok (.putfield 34, 3) := by decide +kernel
theorem dX1_keepRow_13 : decode cX1_keepRow 13 = .ok (.aload_n 0, 1) := by decide +kernel
theorem dX1_keepRow_14 : decode cX1_keepRow 14 = .ok (.iload_n 1, 1) := by decide +kernel
theorem dX1_keepRow_15 : decode cX1_keepRow 15 = .ok (.putfield 15, 3) := by decide +kernel
theorem dX1_keepRow_18 : decode cX1_keepRow 18 = .ok (.aload_n 0, 1) := by decide +kernel
theorem dX1_keepRow_19 : decode cX1_keepRow 19 = .ok (.aload_n 0, 1) := by decide +kernel
theorem dX1_keepRow_20 : decode cX1_keepRow 20 = .ok (.getfield 31, 3) := by decide +kernel
theorem dX1_keepRow_23 : decode cX1_keepRow 23 = .ok (.putfield 9, 3) := by decide +kernel
theorem dX1_keepRow_26 : decode cX1_keepRow 26 = .ok (.aload_n 0, 1) := by decide +kernel
theorem dX1_keepRow_27 : decode cX1_keepRow 27 = .ok (.getfield 37, 3) := by decide +kernel
theorem dX1_keepRow_30 : decode cX1_keepRow 30 = .ok (.iconst 0, 1) := by decide +kernel
theorem dX1_keepRow_31 : decode cX1_keepRow 31 = .ok (.aload_n 0, 1) := by decide +kernel
theorem dX1_keepRow_32 : decode cX1_keepRow 32 = .ok (.getfield 18, 3) := by decide +kernel
theorem dX1_keepRow_35 : decode cX1_keepRow 35 = .ok (.iconst 0, 1) := by decide +kernel
theorem dX1_keepRow_36 : decode cX1_keepRow 36 = .ok (.aload_n 0, 1) := by decide +kernel
theorem dX1_keepRow_37 : decode cX1_keepRow 37 = .ok (.getfield 28, 3) := by decide +kernel
theorem dX1_keepRow_40 : decode cX1_keepRow 40 = .ok (.invokestatic 115, 3) := by decide +kernel
theorem dX1_keepRow_43 : decode cX1_keepRow 43 = .ok (.return_, 1) := by decide +kernel
theorem dX1_sticksToLeft_0 : decode cX1_sticksToLeft 0 = .ok (.iload_n 2, 1) := by decide +kernel
theorem dX1_sticksToLeft_1 : decode cX1_sticksToLeft 1 = .ok (.ifCond .eq 15, 3) := by decide +kernel
theorem dX1_sticksToLeft_4 : decode cX1_sticksToLeft 4 = .ok (.aload_n 0, 1) := by decide +kernel
theorem dX1_sticksToLeft_5 : decode cX1_sticksToLeft 5 = .ok (.getfield 37, 3) := by decide +kernel
theorem dX1_sticksToLeft_8 : decode cX1_sticksToLeft 8 = .ok (.iload_n 2, 1) := by decide +kernel
theorem dX1_sticksToLeft_9 : decode cX1_sticksToLeft 9 = .ok (.iconst 1, 1) := by decide +kernel
theorem dX1_sticksToLeft_10 : decode cX1_sticksToLeft 10 = .ok (.isub, 1) := by decide +kernel
theorem dX1_sticksToLeft_11 : decode cX1_sticksToLeft 11 = .ok (.iaload, 1) := by decide +kernel
theorem dX1_sticksToLeft_12 : decode cX1_sticksToLeft 12 = .ok (.iconst (-1), 1) := by decide +kernel
theorem dX1_sticksToLeft_13 : decode cX1_sticksToLeft 13 = .ok (.if_icmp .ne 5, 3) := by decide +kernel
theorem dX1_sticksToLeft_16 : decode cX1_sticksToLeft 16 = .ok (.iconst 0, 1) := by decide +kernel
theorem dX1_sticksToLeft_17 : decode cX1_sticksToLeft 17 = .ok (.ireturn, 1) := by decide +kernel
theorem dX1_sticksToLeft_18 : decode cX1_sticksToLeft 18 = .ok (.aload_n 0, 1) := by decide +kernel
theorem dX1_sticksToLeft_19 : decode cX1_sticksToLeft 19 = .ok (.getfield 37, 3) := by decide +kernel
theorem dX1_sticksToLeft_22 : decode cX1_sticksToLeft 22 = .ok (.iload_n 2, 1) := by decide +kernel
theorem dX1_sticksToLeft_23 : decode cX1_sticksToLeft 23 = .ok (.iconst 1, 1) := by decide +kernel
theorem dX1_sticksToLeft_24 : decode cX1_sticksToLeft 24 = .ok (.isub, 1) := by decide +kernel
theorem dX1_sticksToLeft_25 : decode cX1_sticksToLeft 25 = .ok (.iaload, 1) := by decide +kernel
theorem dX1_sticksToLeft_26 : decode cX1_sticksToLeft 26 = .ok (.istore_n 3, 1) := by decide +kernel
theorem dX1_sticksToLeft_27 : decode cX1_sticksToLeft 27 = .ok (.iload_n 2, 1) := by decide +kernel
theorem dX1_sticksToLeft_28 : decode cX1_sticksToLeft 28 = .ok (.bipush 8, 2) := by decide +kernel
theorem dX1_sticksToLeft_30 : decode cX1_sticksToLeft 30 = .ok (.imul, 1) := by decide +kernel
theorem dX1_sticksToLeft_31 : decode cX1_sticksToLeft 31 = .ok (.iload_n 3, 1) := by decide +kernel
theorem dX1_sticksToLeft_32 : decode cX1_sticksToLeft 32 = .ok (.iadd, 1) := by decide +kernel
theorem dX1_sticksToLeft_33 : decode cX1_sticksToLeft 33 = .ok (.bipush 8, 2) := by decide +kernel
theorem dX1_sticksToLeft_35 : decode cX1_sticksToLeft 35 = .ok (.imul, 1) := by decide +kernel
theorem dX1_sticksToLeft_36 : decode cX1_sticksToLeft 36 = .ok (.iload_n 1, 1) := by decide +kernel
theorem dX1_sticksToLeft_37 : decode cX1_sticksToLeft 37 = .ok (.iadd, 1) := by decide +kernel
theorem dX1_sticksToLeft_38 : decode cX1_sticksToLeft 38 = .ok (.istore 4, 2) := by decide +kernel
theorem dX1_sticksToLeft_40 : decode cX1_sticksToLeft 40 = .ok (.aload_n 0, 1) := by decide +kernel
theorem dX1_sticksToLeft_41 : decode cX1_sticksToLeft 41 = .ok (.getfield 46, 3) := by decide +kernel
theorem dX1_sticksToLeft_44 : decode cX1_sticksToLeft 44 = .ok (.iload 4, 2) := by decide +kernel
theorem dX1_sticksToLeft_46 : decode cX1_sticksToLeft 46 = .ok (.baload, 1) := by decide +kernel
theorem dX1_sticksToLeft_47 : decode cX1_sticksToLeft 47 = .ok (.ifCond .ne 73, 3) := by decide +kernel
theorem dX1_sticksToLeft_50 : decode cX1_sticksToLeft 50 = .ok (.aload_n 0, 1) := by decide +kernel
theorem dX1_sticksToLeft_51 : decode cX1_sticksToLeft 51 = .ok (.getfield 40, 3) := by decide +kernel
theorem dX1_sticksToLeft_54 : decode cX1_sticksToLeft 54 = .ok (.iload_n 3, 1) := by decide +kernel
theorem dX1_sticksToLeft_55 : decode cX1_sticksToLeft 55 = .ok (.bipush 6, 2) := by decide +kernel
theorem dX1_sticksToLeft_57 : decode cX1_sticksToLeft 57 = .ok (.imul, 1) := by decide +kernel
theorem dX1_sticksToLeft_58 : decode cX1_sticksToLeft 58 = .ok (.iload_n 2, 1) := by decide +kernel
theorem dX1_sticksToLeft_59 : decode cX1_sticksToLeft 59 = .ok (.iadd, 1) := by decide +kernel
theorem dX1_sticksToLeft_60 : decode cX1_sticksToLeft 60 = .ok (.iconst 1, 1) := by decide +kernel
theorem dX1_sticksToLeft_61 : decode cX1_sticksToLeft 61 = .ok (.isub, 1) := by decide +kernel
theorem dX1_sticksToLeft_62 : decode cX1_sticksToLeft 62 = .ok (.iaload, 1) := by decide +kernel
theorem dX1_sticksToLeft_63 : decode cX1_sticksToLeft 63 = .ok (.istore 5, 2) := by decide +kernel
theorem dX1_sticksToLeft_65 : decode cX1_sticksToLeft 65 = .ok (.iload 5, 2) := by decide +kernel
theorem dX1_sticksToLeft_67 : decode cX1_sticksToLeft 67 = .ok (.aload_n 0, 1) := by decide +kernel
theorem dX1_sticksToLeft_68 : decode cX1_sticksToLeft 68 = .ok (.getfield 40, 3) := by decide +kernel
theorem dX1_sticksToLeft_71 : decode cX1_sticksToLeft 71 = .ok (.iload_n 1, 1) := by decide +kernel
theorem dX1_sticksToLeft_72 : decode cX1_sticksToLeft 72 = .ok (.bipush 6, 2) := by decide +kernel
theorem dX1_sticksToLeft_74 : decode cX1_sticksToLeft 74 = .ok (.imul, 1) := by decide +kernel
theorem dX1_sticksToLeft_75 : decode cX1_sticksToLeft 75 = .ok (.iload_n 2, 1) := by decide +kernel
theorem dX1_sticksToLeft_76 : decode cX1_sticksToLeft 76 = .ok (.iadd, 1) := by decide +kernel
theorem dX1_sticksToLeft_77 : decode cX1_sticksToLeft 77 = .ok (.iaload, 1) := by decide +kernel
theorem dX1_sticksToLeft_78 : decode cX1_sticksToLeft 78 = .ok (.isub, 1) := by decide +kernel
theorem dX1_sticksToLeft_79 : decode cX1_sticksToLeft 79 = .ok (.istore 6, 2) := by decide +kernel
theorem dX1_sticksToLeft_81 : decode cX1_sticksToLeft 81 = .ok (.aload_n 0, 1) := by decide +kernel
theorem dX1_sticksToLeft_82 : decode cX1_sticksToLeft 82 = .ok (.getfield 50, 3) := by decide +kernel
theorem dX1_sticksToLeft_85 : decode cX1_sticksToLeft 85 = .ok (.iload_n 3, 1) := by decide +kernel
theorem dX1_sticksToLeft_86 : decode cX1_sticksToLeft 86 = .ok (.iload_n 1, 1) := by decide +kernel
theorem dX1_sticksToLeft_87 : decode cX1_sticksToLeft 87 = .ok (.iload 6, 2) := by decide +kernel
theorem dX1_sticksToLeft_89 : decode cX1_sticksToLeft 89 = .ok (.aload_n 0, 1) := by decide +kernel
theorem dX1_sticksToLeft_90 : decode cX1_sticksToLeft 90 = .ok (.getfield 31, 3) := by decide +kernel
theorem dX1_sticksToLeft_93 : decode cX1_sticksToLeft 93 = .ok (.aload_n 0, 1) := by decide +kernel
theorem dX1_sticksToLeft_94 : decode cX1_sticksToLeft 94 = .ok (.getfield 25, 3) := by decide +kernel
theorem dX1_sticksToLeft_97 : decode cX1_sticksToLeft 97 = .ok (.invokevirtual 121, 3) := by decide +kernel
theorem dX1_sticksToLeft_100 : decode cX1_sticksToLeft 100 = .ok (.istore 7, 2) := by decide +kernel
theorem dX1_sticksToLeft_102 : decode cX1_sticksToLeft 102 = .ok (.aload_n 0, 1) := by decide +kernel
theorem dX1_sticksToLeft_103 : decode cX1_sticksToLeft 103 = .ok (.getfield 46, 3) := by decide +kernel
theorem dX1_sticksToLeft_106 : decode cX1_sticksToLeft 106 = .ok (.iload 4, 2) := by decide +kernel
theorem dX1_sticksToLeft_108 : decode cX1_sticksToLeft 108 = .ok (.iload 7, 2) := by decide +kernel
theorem dX1_sticksToLeft_110 : decode cX1_sticksToLeft 110 = .ok (.ifCond .eq 7, 3) := by decide +kernel
theorem dX1_sticksToLeft_113 : decode cX1_sticksToLeft 113 = .ok (.iconst 2, 1) := by decide +kernel
theorem dX1_sticksToLeft_114 : decode cX1_sticksToLeft 114 = .ok (.goto 4, 3) := by decide +kernel
theorem dX1_sticksToLeft_117 : decode cX1_sticksToLeft 117 = .ok (.iconst 1, 1) := by decide +kernel
theorem dX1_sticksToLeft_118 : decode cX1_sticksToLeft 118 = .ok (.i2b, 1) := by decide +kernel
theorem dX1_sticksToLeft_119 : decode cX1_sticksToLeft 119 = .ok (.bastore, 1) := by decide +kernel
theorem dX1_sticksToLeft_120 : decode cX1_sticksToLeft 120 = .ok (.aload_n 0, 1) := by decide +kernel
theorem dX1_sticksToLeft_121 : decode cX1_sticksToLeft 121 = .ok (.getfield 46, 3) := by decide +kernel
theorem dX1_sticksToLeft_124 : decode cX1_sticksToLeft 124 = .ok (.iload 4, 2) := by decide +kernel
theorem dX1_sticksToLeft_126 : decode cX1_sticksToLeft 126 = .ok (.baload, 1) := by decide +kernel
theorem dX1_sticksToLeft_127 : decode cX1_sticksToLeft 127 = .ok (.iconst 2, 1) := by decide +kernel
theorem dX1_sticksToLeft_128 : decode cX1_sticksToLeft 128 = .ok (.if_icmp .ne 7, 3) := by decide +kernel
theorem dX1_sticksToLeft_131 : decode cX1_sticksToLeft 131 = .ok (.iconst 1, 1) := by decide +kernel
theorem dX1_sticksToLeft_132 : decode cX1_sticksToLeft 132 = .ok (.goto 4, 3) := by decide +kernel
theorem dX1_sticksToLeft_135 : decode cX1_sticksToLeft 135 = .ok (.iconst 0, 1) := by decide +kernel
theorem dX1_sticksToLeft_136 : decode cX1_sticksToLeft 136 = .ok (.ireturn, 1) := by decide +kernel
theorem dX2_init_0 : decode cX2_init 0 = .ok (.aload_n 0, 1) := by decide +kernel
theorem dX2_init_1 : decode cX2_init 1 = .ok (.invokespecial 3, 3) := by decide +kernel
theorem dX2_init_4 : decode cX2_init 4 = .ok (.aload_n 0, 1) := by decide +kernel
theorem dX2_init_5 : decode cX2_init 5 = .ok (.bipush 20, 2) := by decide +kernel
theorem dX2_init_7 : decode cX2_init 7 = .ok (.anewarray 9, 3) := by decide +kernel
theorem dX2_init_10 : decode cX2_init 10 = .ok (.putfield 11, 3) := by decide +kernel
theorem dX2_init_13 : decode cX2_init 13 = .ok (.aload_n 0, 1) := by decide +kernel
theorem dX2_init_14 : decode cX2_init 14 = .ok (.iconst 0, 1) := by decide +kernel
theorem dX2_init_15 : decode cX2_init 15 = .ok (.putfield 17, 3) := by decide +kernel
theorem dX2_init_18 : decode cX2_init 18 = .ok (.aload_n 0, 1) := by decide +kernel
theorem dX2_init_19 : decode cX2_init 19 = .ok (.iconst 0, 1) := by decide +kernel
theorem dX2_init_20 : decode cX2_init 20 = .ok (.putfield 21, 3) := by decide +kernel
theorem dX2_init_23 : decode cX2_init 23 = .ok (.iconst 0, 1) := by decide +kernel
theorem dX2_init_24 : decode cX2_init 24 = .ok (.istore_n 1, 1) := by decide +kernel
theorem dX2_init_25 : decode cX2_init 25 = .ok (.iload_n 1, 1) := by decide +kernel
theorem dX2_init_26 : decode cX2_init 26 = .ok (.aload_n 0, 1) := by decide +kernel
theorem dX2_init_27 : decode cX2_init 27 = .ok (.getfield 11, 3) := by decide +kernel
theorem dX2_init_30 : decode cX2_init 30 = .ok (.arraylength, 1) := by decide +kernel
theorem dX2_init_31 : decode cX2_init 31 = .ok (.if_icmp .ge 22, 3) := by decide +kernel
theorem dX2_init_34 : decode cX2_init 34 = .ok (.aload_n 0, 1) := by decide +kernel
theorem dX2_init_35 : decode cX2_init 35 = .ok (.getfield 11, 3) := by decide +kernel
theorem dX2_init_38 : decode cX2_init 38 = .ok (.iload_n 1, 1) := by decide +kernel
theorem dX2_init_39 : decode cX2_init 39 = .ok (.new 9, 3) := by decide +kernel
theorem dX2_init_42 : decode cX2_init 42 = .ok (.dup, 1) := by decide +kernel
theorem dX2_init_43 : decode cX2_init 43 = .ok (.invokespecial 24, 3) := by decide +kernel
theorem dX2_init_46 : decode cX2_init 46 = .ok (.aastore, 1) := by decide +kernel
theorem dX2_init_47 : decode cX2_init 47 = .ok (.iinc 1 1, 3) := by decide +kernel
theorem dX2_init_50 : decode cX2_init 50 = .ok (.goto (-25), 3) := by decide +kernel
theorem dX2_init_53 : decode cX2_init 53 = .ok (.return_, 1) := by decide +kernel
theorem dX2_keep_0 : decode cX2_keep 0 = .ok (.aload_n 0, 1) := by decide +kernel
theorem dX2_keep_1 : decode cX2_keep 1 = .ok (.getfield 11, 3) := by decide +kernel
theorem dX2_keep_4 : decode cX2_keep 4 = .ok (.aload_n 0, 1) := by decide +kernel
theorem dX2_keep_5 : decode cX2_keep 5 = .ok (.getfield 17, 3) := by decide +kernel
theorem dX2_keep_8 : decode cX2_keep 8 = .ok (.aaload, 1) := by decide +kernel
theorem dX2_keep_9 : decode cX2_keep 9 = .ok (.aload_n 1, 1) := by decide +kernel
theorem dX2_keep_10 : decode cX2_keep 10 = .ok (.invokevirtual 25, 3) := by decide +kernel
theorem dX2_keep_13 : decode cX2_keep 13 = .ok (.aload_n 0, 1) := by decide +kernel
theorem dX2_keep_14 : decode cX2_keep 14 = .ok (.aload_n 0, 1) := by decide +kernel
theorem dX2_keep_15 : decode cX2_keep 15 = .ok (.getfield 17, 3) := by decide +kernel
theorem dX2_keep_18 : decode cX2_keep 18 = .ok (.iconst 1, 1) := by decide +kernel
theorem dX2_keep_19 : decode cX2_keep 19 = .ok (.iadd, 1) := by decide +kernel
theorem dX2_keep_20 : decode cX2_keep 20 = .ok (.bipush 20, 2) := by decide +kernel
theorem dX2_keep_22 : decode cX2_keep 22 = .ok (.irem, 1) := by decide +kernel
theorem dX2_keep_23 : decode cX2_keep 23 = .ok (.putfield 17, 3) := by decide +kernel
theorem dX2_keep_26 : decode cX2_keep 26 = .ok (.aload_n 0, 1) := by decide +kernel
theorem dX2_keep_27 : decode cX2_keep 27 = .ok (.bipush 20, 2) := by decide +kernel
theorem dX2_keep_29 : decode cX2_keep 29 = .ok (.aload_n 0, 1) := by decide +kernel
theorem dX2_keep_30 : decode cX2_keep 30 = .ok (.getfield 21, 3) := by decide +kernel
theorem dX2_keep_33 : decode cX2_keep 33 = .ok (.iconst 1, 1) := by decide +kernel
theorem dX2_keep_34 : decode cX2_keep 34 = .ok (.iadd, 1) := by decide +kernel
theorem dX2_keep_35 : decode cX2_keep 35 = .ok (.invokestatic 29, 3) := by decide +kernel
theorem dX2_keep_38 : decode cX2_keep 38 = .ok (.putfield 21, 3) := by decide +kernel
theorem dX2_keep_41 : decode cX2_keep 41 = .ok (.return_, 1) := by decide +kernel
theorem dX2_giveBack_0 : decode cX2_giveBack 0 = .ok (.aload_n 0, 1) := by decide +kernel
theorem dX2_giveBack_1 : decode cX2_giveBack 1 = .ok (.getfield 21, 3) := by decide +kernel
theorem dX2_giveBack_4 : decode cX2_giveBack 4 = .ok (.ifCond .ne 5, 3) := by decide +kernel
theorem dX2_giveBack_7 : decode cX2_giveBack 7 = .ok (.iconst 0, 1) := by decide +kernel
theorem dX2_giveBack_8 : decode cX2_giveBack 8 = .ok (.ireturn, 1) := by decide +kernel
theorem dX2_giveBack_9 : decode cX2_giveBack 9 = .ok (.aload_n 0, 1) := by decide +kernel
theorem dX2_giveBack_10 : decode cX2_giveBack 10 = .ok (.aload_n 0, 1) := by decide +kernel
theorem dX2_giveBack_11 : decode cX2_giveBack 11 = .ok (.getfield 17, 3) := by decide +kernel
theorem dX2_giveBack_14 : decode cX2_giveBack 14 = .ok (.bipush 20, 2) := by decide +kernel
theorem dX2_giveBack_16 : decode cX2_giveBack 16 = .ok (.iadd, 1) := by decide +kernel
theorem dX2_giveBack_17 : decode cX2_giveBack 17 = .ok (.iconst 1, 1) := by decide +kernel
theorem dX2_giveBack_18 : decode cX2_giveBack 18 = .ok (.isub, 1) := by decide +kernel
theorem dX2_giveBack_19 : decode cX2_giveBack 19 = .ok (.bipush 20, 2) := by decide +kernel
theorem dX2_giveBack_21 : decode cX2_giveBack 21 = .ok (.irem, 1) := by decide +kernel
theorem dX2_giveBack_22 : decode cX2_giveBack 22 = .ok (.putfield 17, 3) := by decide +kernel
theorem dX2_giveBack_25 : decode cX2_giveBack 25 = .ok (.aload_n 0, 1) := by decide +kernel
theorem dX2_giveBack_26 : decode cX2_giveBack 26 = .ok (.dup, 1) := by decide +kernel
theorem dX2_giveBack_27 : decode cX2_giveBack 27 = .ok (.getfield 21, 3) := by decide +kernel
theorem dX2_giveBack_30 : decode cX2_giveBack 30 = .ok (.iconst 1, 1) := by decide +kernel
theorem dX2_giveBack_31 : decode cX2_giveBack 31 = .ok (.isub, 1) := by decide +kernel
theorem dX2_giveBack_32 : decode cX2_giveBack 32 = .ok (.putfield 21, 3) := by decide +kernel
theorem dX2_giveBack_35 : decode cX2_giveBack 35 = .ok (.aload_n 1, 1) := by decide +kernel
theorem dX2_giveBack_36 : decode cX2_giveBack 36 = .ok (.aload_n 0, 1) := by decide +kernel
theorem dX2_giveBack_37 : decode cX2_giveBack 37 = .ok (.getfield 11, 3) := by decide +kernel
theorem dX2_giveBack_40 : decode cX2_giveBack 40 = .ok (.aload_n 0, 1) := by decide +kernel
theorem dX2_giveBack_41 : decode cX2_giveBack 41 = .ok (.getfield 17, 3) := by decide +kernel
theorem dX2_giveBack_44 : decode cX2_giveBack 44 = .ok (.aaload, 1) := by decide +kernel
theorem dX2_giveBack_45 : decode cX2_giveBack 45 = .ok (.invokevirtual 25, 3) := by decide +kernel
theorem dX2_giveBack_48 : decode cX2_giveBack 48 = .ok (.iconst 1, 1) := by decide +kernel
theorem dX2_giveBack_49 : decode cX2_giveBack 49 = .ok (.ireturn, 1) := by decide +kernel
theorem dX3_init_0 : decode cX3_init 0 = .ok (.aload_n 0, 1) := by decide +kernel
theorem dX3_init_1 : decode cX3_init 1 = .ok (.invokespecial 3, 3) := by decide +kernel
theorem dX3_init_4 : decode cX3_init 4 = .ok (.aload_n 0, 1) := by decide +kernel
theorem dX3_init_5 : decode cX3_init 5 = .ok (.bipush 56, 2) := by decide +kernel
theorem dX3_init_7 : decode cX3_init 7 = .ok (.newarray .int, 2) := by decide +kernel
theorem dX3_init_9 : decode cX3_init 9 = .ok (.putfield 11, 3) := by decide +kernel
theorem dX3_init_12 : decode cX3_init 12 = .ok (.aload_n 0, 1) := by decide +kernel
theorem dX3_init_13 : decode cX3_init 13 = .ok (.iconst 0, 1) := by decide +kernel
theorem dX3_init_14 : decode cX3_init 14 = .ok (.putfield 15, 3) := by decide +kernel
theorem dX3_init_17 : decode cX3_init 17 = .ok (.return_, 1) := by decide +kernel
theorem dX3_write_0 : decode cX3_write 0 = .ok (.aload_n 0, 1) := by decide +kernel
theorem dX3_write_1 : decode cX3_write 1 = .ok (.iconst 0, 1) := by decide +kernel
theorem dX3_write_2 : decode cX3_write 2 = .ok (.putfield 15, 3) := by decide +kernel
theorem dX3_write_5 : decode cX3_write 5 = .ok (.aload_n 0, 1) := by decide +kernel
theorem dX3_write_6 : decode cX3_write 6 = .ok (.aload_n 1, 1) := by decide +kernel
theorem dX3_write_7 : decode cX3_write 7 = .ok (.getfield 19, 3) := by decide +kernel
theorem dX3_write_10 : decode cX3_write 10 = .ok (.bipush 8, 2) := by decide +kernel
theorem dX3_write_12 : decode cX3_write 12 = .ok (.ishr, 1) := by decide +kernel
theorem dX3_write_13 : decode cX3_write 13 = .ok (.invokevirtual 24, 3) := by decide +kernel
theorem dX3_write_16 : decode cX3_write 16 = .ok (.aload_n 0, 1) := by decide +kernel
theorem dX3_write_17 : decode cX3_write 17 = .ok (.aload_n 1, 1) := by decide +kernel
theorem dX3_write_18 : decode cX3_write 18 = .ok (.getfield 19, 3) := by decide +kernel
theorem dX3_write_21 : decode cX3_write 21 = .ok (.invokevirtual 24, 3) := by decide +kernel
theorem dX3_write_24 : decode cX3_write 24 = .ok (.aload_n 0, 1) := by decide +kernel
theorem dX3_write_25 : decode cX3_write 25 = .ok (.aload_n 1, 1) := by decide +kernel
theorem dX3_write_26 : decode cX3_write 26 = .ok (.getfield 28, 3) := by decide +kernel
theorem dX3_write_29 : decode cX3_write 29 = .ok (.bipush 8, 2) := by decide +kernel
theorem dX3_write_31 : decode cX3_write 31 = .ok (.ishr, 1) := by decide +kernel
theorem dX3_write_32 : decode cX3_write 32 = .ok (.invokevirtual 24, 3) := by decide +kernel
theorem dX3_write_35 : decode cX3_write 35 = .ok (.aload_n 0, 1) := by decide +kernel
theorem dX3_write_36 : decode cX3_write 36 = .ok (.aload_n 1, 1) := by decide +kernel
theorem dX3_write_37 : decode cX3_write 37 = .ok (.getfield 28, 3) := by decide +kernel
theorem dX3_write_40 : decode cX3_write 40 = .ok (.invokevirtual 24, 3) := by decide +kernel
theorem dX3_write_43 : decode cX3_write 43 = .ok (.iconst 0, 1) := by decide +kernel
theorem dX3_write_44 : decode cX3_write 44 = .ok (.istore_n 3, 1) := by decide +kernel
theorem dX3_write_45 : decode cX3_write 45 = .ok (.iload_n 3, 1) := by decide +kernel
theorem dX3_write_46 : decode cX3_write 46 = .ok (.aload_n 2, 1) := by decide +kernel
theorem dX3_write_47 : decode cX3_write 47 = .ok (.getfield 31, 3) := by decide +kernel
theorem dX3_write_50 : decode cX3_write 50 = .ok (.if_icmp .ge 76, 3) := by decide +kernel
theorem dX3_write_53 : decode cX3_write 53 = .ok (.aload_n 0, 1) := by decide +kernel
theorem dX3_write_54 : decode cX3_write 54 = .ok (.aload_n 1, 1) := by decide +kernel
theorem dX3_write_55 : decode cX3_write 55 = .ok (.iload_n 3, 1) := by decide +kernel
theorem dX3_write_56 : decode cX3_write 56 = .ok (.invokevirtual 36, 3) := by decide +kernel
theorem dX3_write_59 : decode cX3_write 59 = .ok (.ifCond .eq 7, 3) := by decide +kernel
theorem dX3_write_62 : decode cX3_write 62 = .ok (.iconst 1, 1) := by decide +kernel
theorem dX3_write_63 : decode cX3_write 63 = .ok (.goto 4, 3) := by decide +kernel
theorem dX3_write_66 : decode cX3_write 66 = .ok (.iconst 0, 1) := by decide +kernel
theorem dX3_write_67 : decode cX3_write 67 = .ok (.invokevirtual 24, 3) := by decide +kernel
theorem dX3_write_70 : decode cX3_write 70 = .ok (.aload_n 0, 1) := by decide +kernel
theorem dX3_write_71 : decode cX3_write 71 = .ok (.aload_n 1, 1) := by decide +kernel
theorem dX3_write_72 : decode cX3_write 72 = .ok (.getfield 40, 3) := by decide +kernel
theorem dX3_write_75 : decode cX3_write 75 = .ok (.iload_n 3, 1) := by decide +kernel
theorem dX3_write_76 : decode cX3_write 76 = .ok (.iaload, 1) := by decide +kernel
theorem dX3_write_77 : decode cX3_write 77 = .ok (.invokevirtual 24, 3) := by decide +kernel
theorem dX3_write_80 : decode cX3_write 80 = .ok (.aload_n 0, 1) := by decide +kernel
theorem dX3_write_81 : decode cX3_write 81 = .ok (.aload_n 1, 1) := by decide +kernel
theorem dX3_write_82 : decode cX3_write 82 = .ok (.getfield 43, 3) := by decide +kernel
theorem dX3_write_85 : decode cX3_write 85 = .ok (.iload_n 3, 1) := by decide +kernel
theorem dX3_write_86 : decode cX3_write 86 = .ok (.iaload, 1) := by decide +kernel
theorem dX3_write_87 : decode cX3_write 87 = .ok (.invokevirtual 24, 3) := by decide +kernel
theorem dX3_write_90 : decode cX3_write 90 = .ok (.aload_n 0, 1) := by decide +kernel
theorem dX3_write_91 : decode cX3_write 91 = .ok (.aload_n 1, 1) := by decide +kernel
theorem dX3_write_92 : decode cX3_write 92 = .ok (.getfield 46, 3) := by decide +kernel
theorem dX3_write_95 : decode cX3_write 95 = .ok (.iload_n 3, 1) := by decide +kernel
theorem dX3_write_96 : decode cX3_write 96 = .ok (.iaload, 1) := by decide +kernel
theorem dX3_write_97 : decode cX3_write 97 = .ok (.invokevirtual 24, 3) := by decide +kernel
theorem dX3_write_100 : decode cX3_write 100 = .ok (.aload_n 0, 1) := by decide +kernel
theorem dX3_write_101 : decode cX3_write 101 = .ok (.aload_n 1, 1) := by decide +kernel
theorem dX3_write_102 : decode cX3_write 102 = .ok (.getfield 49, 3) := by decide +kernel
theorem dX3_write_105 : decode cX3_write 105 = .ok (.iload_n 3, 1) := by decide +kernel
theorem dX3_write_106 : decode cX3_write 106 = .ok (.iaload, 1) := by decide +kernel
theorem dX3_write_107 : decode cX3_write 107 = .ok (.invokevirtual 24, 3) := by decide +kernel
theorem dX3_write_110 : decode cX3_write 110 = .ok (.aload_n 0, 1) := by decide +kernel
theorem dX3_write_111 : decode cX3_write 111 = .ok (.aload_n 1, 1) := by decide +kernel
theorem dX3_write_112 : decode cX3_write 112 = .ok (.getfield 52, 3) := by decide +kernel
theorem dX3_write_115 : decode cX3_write 115 = .ok (.iload_n 3, 1) := by decide +kernel
theorem dX3_write_116 : decode cX3_write 116 = .ok (.iaload, 1) := by decide +kernel
theorem dX3_write_117 : decode cX3_write 117 = .ok (.invokevirtual 24, 3) := by decide +kernel
theorem dX3_write_120 : decode cX3_write 120 = .ok (.iinc 3 1, 3) := by decide +kernel
theorem dX3_write_123 : decode cX3_write 123 = .ok (.goto (-78), 3) := by decide +kernel
theorem dX3_write_126 : decode cX3_write 126 = .ok (.iconst 0, 1) := by decide +kernel
theorem dX3_write_127 : decode cX3_write 127 = .ok (.istore_n 3, 1) := by decide +kernel
theorem dX3_write_128 : decode cX3_write 128 = .ok (.iload_n 3, 1) := by decide +kernel
theorem dX3_write_129 : decode cX3_write 129 = .ok (.aload_n 2, 1) := by decide +kernel
theorem dX3_write_130 : decode cX3_write 130 = .ok (.getfield 55, 3) := by decide +kernel
theorem dX3_write_133 : decode cX3_write 133 = .ok (.if_icmp .ge 19, 3) := by decide +kernel
theorem dX3_write_136 : decode cX3_write 136 = .ok (.aload_n 0, 1) := by decide +kernel
theorem dX3_write_137 : decode cX3_write 137 = .ok (.aload_n 1, 1) := by decide +kernel
theorem dX3_write_138 : decode cX3_write 138 = .ok (.getfield 58, 3) := by decide +kernel
theorem dX3_write_141 : decode cX3_write 141 = .ok (.iload_n 3, 1) := by decide +kernel
theorem dX3_write_142 : decode cX3_write 142 = .ok (.iaload, 1) := by decide +kernel
theorem dX3_write_143 : decode cX3_write 143 = .ok (.invokevirtual 24, 3) := by decide +kernel
theorem dX3_write_146 : decode cX3_write 146 = .ok (.iinc 3 1, 3) := by decide +kernel
theorem dX3_write_149 : decode cX3_write 149 = .ok (.goto (-21), 3) := by decide +kernel
theorem dX3_write_152 : decode cX3_write 152 = .ok (.sipush 241, 3) := by decide +kernel
theorem dX3_write_155 : decode cX3_write 155 = .ok (.istore_n 3, 1) := by decide +kernel
theorem dX3_write_156 : decode cX3_write 156 = .ok (.iconst 0, 1) := by decide +kernel
theorem dX3_write_157 : decode cX3_write 157 = .ok (.istore 4, 2) := by decide +kernel
theorem dX3_write_159 : decode cX3_write 159 = .ok (.iload 4, 2) := by decide +kernel
theorem dX3_write_161 : decode cX3_write 161 = .ok (.aload_n 0, 1) := by decide +kernel
theorem dX3_write_162 : decode cX3_write 162 = .ok (.getfield 15, 3) := by decide +kernel
theorem dX3_write_165 : decode cX3_write 165 = .ok (.if_icmp .ge 21, 3) := by decide +kernel
theorem dX3_write_168 : decode cX3_write 168 = .ok (.iload_n 3, 1) := by decide +kernel
theorem dX3_write_169 : decode cX3_write 169 = .ok (.aload_n 0, 1) := by decide +kernel
theorem dX3_write_170 : decode cX3_write 170 = .ok (.getfield 11, 3) := by decide +kernel
theorem dX3_write_173 : decode cX3_write 173 = .ok (.iload 4, 2) := by decide +kernel
theorem dX3_write_175 : decode cX3_write 175 = .ok (.iaload, 1) := by decide +kernel
theorem dX3_write_176 : decode cX3_write 176 = .ok (.invokestatic 61, 3) := by decide +kernel
theorem dX3_write_179 : decode cX3_write 179 = .ok (.istore_n 3, 1) := by decide +kernel
theorem dX3_write_180 : decode cX3_write 180 = .ok (.iinc 4 1, 3) := by decide +kernel
theorem dX3_write_183 : decode cX3_write 183 = .ok (.goto (-24), 3) := by decide +kernel
theorem dX3_write_186 : decode cX3_write 186 = .ok (.aload_n 0, 1) := by decide +kernel
theorem dX3_write_187 : decode cX3_write 187 = .ok (.iload_n 3, 1) := by decide +kernel
theorem dX3_write_188 : decode cX3_write 188 = .ok (.invokevirtual 24, 3) := by decide +kernel
theorem dX3_write_191 : decode cX3_write 191 = .ok (.return_, 1) := by decide +kernel
theorem dX3_put_0 : decode cX3_put 0 = .ok (.aload_n 0, 1) := by decide +kernel
theorem dX3_put_1 : decode cX3_put 1 = .ok (.getfield 15, 3) := by decide +kernel
theorem dX3_put_4 : decode cX3_put 4 = .ok (.aload_n 0, 1) := by decide +kernel
theorem dX3_put_5 : decode cX3_put 5 = .ok (.getfield 11, 3) := by decide +kernel
theorem dX3_put_8 : decode cX3_put 8 = .ok (.arraylength, 1) := by decide +kernel
theorem dX3_put_9 : decode cX3_put 9 = .ok (.if_icmp .ge 27, 3) := by decide +kernel
theorem dX3_put_12 : decode cX3_put 12 = .ok (.aload_n 0, 1) := by decide +kernel
theorem dX3_put_13 : decode cX3_put 13 = .ok (.getfield 11, 3) := by decide +kernel
theorem dX3_put_16 : decode cX3_put 16 = .ok (.aload_n 0, 1) := by decide +kernel
theorem dX3_put_17 : decode cX3_put 17 = .ok (.getfield 15, 3) := by decide +kernel
theorem dX3_put_20 : decode cX3_put 20 = .ok (.iload_n 1, 1) := by decide +kernel
theorem dX3_put_21 : decode cX3_put 21 = .ok (.sipush 255, 3) := by decide +kernel
theorem dX3_put_24 : decode cX3_put 24 = .ok (.iand, 1) := by decide +kernel
theorem dX3_put_25 : decode cX3_put 25 = .ok (.iastore, 1) := by decide +kernel
theorem dX3_put_26 : decode cX3_put 26 = .ok (.aload_n 0, 1) := by decide +kernel
theorem dX3_put_27 : decode cX3_put 27 = .ok (.dup, 1) := by decide +kernel
theorem dX3_put_28 : decode cX3_put 28 = .ok (.getfield 15, 3) := by decide +kernel
theorem dX3_put_31 : decode cX3_put 31 = .ok (.iconst 1, 1) := by decide +kernel
theorem dX3_put_32 : decode cX3_put 32 = .ok (.iadd, 1) := by decide +kernel
theorem dX3_put_33 : decode cX3_put 33 = .ok (.putfield 15, 3) := by decide +kernel
theorem dX3_put_36 : decode cX3_put 36 = .ok (.return_, 1) := by decide +kernel
theorem dX3_addToCheck_0 : decode cX3_addToCheck 0 = .ok (.iconst 5, 1) := by decide +kernel
theorem dX3_addToCheck_1 : decode cX3_addToCheck 1 = .ok (.iload_n 0, 1) := by decide +kernel
theorem dX3_addToCheck_2 : decode cX3_addToCheck 2 = .ok (.imul, 1) := by decide +kernel
theorem dX3_addToCheck_3 : decode cX3_addToCheck 3 = .ok (.iload_n 1, 1) := by decide +kernel
theorem dX3_addToCheck_4 : decode cX3_addToCheck 4 = .ok (.iadd, 1) := by decide +kernel
theorem dX3_addToCheck_5 : decode cX3_addToCheck 5 = .ok (.sipush 251, 3) := by decide +kernel
theorem dX3_addToCheck_8 : decode cX3_addToCheck 8 = .ok (.irem, 1) := by decide +kernel
theorem dX3_addToCheck_9 : decode cX3_addToCheck 9 = .ok (.ireturn, 1) := by decide +kernel
theorem dX3_read_0 : decode cX3_read 0 = .ok (.iconst 4, 1) := by decide +kernel
theorem dX3_read_1 : decode cX3_read 1 = .ok (.aload_n 3, 1) := by decide +kernel
theorem dX3_read_2 : decode cX3_read 2 = .ok (.getfield 31, 3) := by decide +kernel
theorem dX3_read_5 : decode cX3_read 5 = .ok (.bipush 6, 2) := by decide +kernel
theorem dX3_read_7 : decode cX3_read 7 = .ok (.imul, 1) := by decide +kernel
theorem dX3_read_8 : decode cX3_read 8 = .ok (.iadd, 1) := by decide +kernel
theorem dX3_read_9 : decode cX3_read 9 = .ok (.istore 5, 2) := by decide +kernel
theorem dX3_read_11 : decode cX3_read 11 = .ok (.iload 5, 2) := by decide +kernel
theorem dX3_read_13 : decode cX3_read 13 = .ok (.aload_n 3, 1) := by decide +kernel
theorem dX3_read_14 : decode cX3_read 14 = .ok (.getfield 55, 3) := by decide +kernel
theorem dX3_read_17 : decode cX3_read 17 = .ok (.iadd, 1) := by decide +kernel
theorem dX3_read_18 : decode cX3_read 18 = .ok (.istore 6, 2) := by decide +kernel
theorem dX3_read_20 : decode cX3_read 20 = .ok (.iload_n 2, 1) := by decide +kernel
theorem dX3_read_21 : decode cX3_read 21 = .ok (.iload 6, 2) := by decide +kernel
theorem dX3_read_23 : decode cX3_read 23 = .ok (.iconst 1, 1) := by decide +kernel
theorem dX3_read_24 : decode cX3_read 24 = .ok (.iadd, 1) := by decide +kernel
theorem dX3_read_25 : decode cX3_read 25 = .ok (.if_icmp .ne 12, 3) := by decide +kernel
theorem dX3_read_28 : decode cX3_read 28 = .ok (.aload_n 1, 1) := by decide +kernel
theorem dX3_read_29 : decode cX3_read 29 = .ok (.iload 6, 2) := by decide +kernel
theorem dX3_read_31 : decode cX3_read 31 = .ok (.invokestatic 65, 3) := by decide +kernel
theorem dX3_read_34 : decode cX3_read 34 = .ok (.ifCond .ne 5, 3) := by decide +kernel
theorem dX3_read_37 : decode cX3_read 37 = .ok (.iconst 0, 1) := by decide +kernel
theorem dX3_read_38 : decode cX3_read 38 = .ok (.ireturn, 1) := by decide +kernel
theorem dX3_read_39 : decode cX3_read 39 = .ok (.aload 4, 2) := by decide +kernel
theorem dX3_read_41 : decode cX3_read 41 = .ok (.aload_n 3, 1) := by decide +kernel
theorem dX3_read_42 : decode cX3_read 42 = .ok (.invokevirtual 69, 3) := by decide +kernel
theorem dX3_read_45 : decode cX3_read 45 = .ok (.aload 4, 2) := by decide +kernel
theorem dX3_read_47 : decode cX3_read 47 = .ok (.aload_n 1, 1) := by decide +kernel
theorem dX3_read_48 : decode cX3_read 48 = .ok (.iconst 0, 1) := by decide +kernel
theorem dX3_read_49 : decode cX3_read 49 = .ok (.baload, 1) := by decide +kernel
theorem dX3_read_50 : decode cX3_read 50 = .ok (.sipush 255, 3) := by decide +kernel
theorem dX3_read_53 : decode cX3_read 53 = .ok (.iand, 1) := by decide +kernel
theorem dX3_read_54 : decode cX3_read 54 = .ok (.bipush 8, 2) := by decide +kernel
theorem dX3_read_56 : decode cX3_read 56 = .ok (.ishl, 1) := by decide +kernel
theorem dX3_read_57 : decode cX3_read 57 = .ok (.aload_n 1, 1) := by decide +kernel
theorem dX3_read_58 : decode cX3_read 58 = .ok (.iconst 1, 1) := by decide +kernel
theorem dX3_read_59 : decode cX3_read 59 = .ok (.baload, 1) := by decide +kernel
theorem dX3_read_60 : decode cX3_read 60 = .ok (.sipush 255, 3) := by decide +kernel
theorem dX3_read_63 : decode cX3_read 63 = .ok (.iand, 1) := by decide +kernel
theorem dX3_read_64 : decode cX3_read 64 = .ok (.ior, 1) := by decide +kernel
theorem dX3_read_65 : decode cX3_read 65 = .ok (.putfield 19, 3) := by decide +kernel
theorem dX3_read_68 : decode cX3_read 68 = .ok (.aload 4, 2) := by decide +kernel
theorem dX3_read_70 : decode cX3_read 70 = .ok (.aload_n 1, 1) := by decide +kernel
theorem dX3_read_71 : decode cX3_read 71 = .ok (.iconst 2, 1) := by decide +kernel
theorem dX3_read_72 : decode cX3_read 72 = .ok (.baload, 1) := by decide +kernel
theorem dX3_read_73 : decode cX3_read 73 = .ok (.sipush 255, 3) := by decide +kernel
theorem dX3_read_76 : decode cX3_read 76 = .ok (.iand, 1) := by decide +kernel
theorem dX3_read_77 : decode cX3_read 77 = .ok (.bipush 8, 2) := by decide +kernel
theorem dX3_read_79 : decode cX3_read 79 = .ok (.ishl, 1) := by decide +kernel
theorem dX3_read_80 : decode cX3_read 80 = .ok (.aload_n 1, 1) := by decide +kernel
theorem dX3_read_81 : decode cX3_read 81 = .ok (.iconst 3, 1) := by decide +kernel
theorem dX3_read_82 : decode cX3_read 82 = .ok (.baload, 1) := by decide +kernel
theorem dX3_read_83 : decode cX3_read 83 = .ok (.sipush 255, 3) := by decide +kernel
theorem dX3_read_86 : decode cX3_read 86 = .ok (.iand, 1) := by decide +kernel
theorem dX3_read_87 : decode cX3_read 87 = .ok (.ior, 1) := by decide +kernel
theorem dX3_read_88 : decode cX3_read 88 = .ok (.putfield 28, 3) := by decide +kernel
theorem dX3_read_91 : decode cX3_read 91 = .ok (.aload 4, 2) := by decide +kernel
theorem dX3_read_93 : decode cX3_read 93 = .ok (.getfield 19, 3) := by decide +kernel
theorem dX3_read_96 : decode cX3_read 96 = .ok (.sipush 999, 3) := by decide +kernel
theorem dX3_read_99 : decode cX3_read 99 = .ok (.if_icmp .gt 18, 3) := by decide +kernel
theorem dX3_read_102 : decode cX3_read 102 = .ok (.aload 4, 2) := by decide +kernel
theorem dX3_read_104 : decode cX3_read 104 = .ok (.getfield 28, 3) := by decide +kernel
theorem dX3_read_107 : decode cX3_read 107 = .ok (.sipush 9999, 3) := by decide +kernel
theorem dX3_read_110 : decode cX3_read 110 = .ok (.if_icmp .gt 7, 3) := by decide +kernel
theorem dX3_read_113 : decode cX3_read 113 = .ok (.iconst 1, 1) := by decide +kernel
theorem dX3_read_114 : decode cX3_read 114 = .ok (.goto 4, 3) := by decide +kernel
theorem dX3_read_117 : decode cX3_read 117 = .ok (.iconst 0, 1) := by decide +kernel
theorem dX3_read_118 : decode cX3_read 118 = .ok (.istore 7, 2) := by decide +kernel
theorem dX3_read_120 : decode cX3_read 120 = .ok (.iconst 0, 1) := by decide +kernel
theorem dX3_read_121 : decode cX3_read 121 = .ok (.istore 8, 2) := by decide +kernel
theorem dX3_read_123 : decode cX3_read 123 = .ok (.iload 8, 2) := by decide +kernel
theorem dX3_read_125 : decode cX3_read 125 = .ok (.aload_n 3, 1) := by decide +kernel
theorem dX3_read_126 : decode cX3_read 126 = .ok (.getfield 31, 3) := by decide +kernel
theorem dX3_read_129 : decode cX3_read 129 = .ok (.if_icmp .ge 32, 3) := by decide +kernel
theorem dX3_read_132 : decode cX3_read 132 = .ok (.iload 7, 2) := by decide +kernel
theorem dX3_read_134 : decode cX3_read 134 = .ok (.ifCond .eq 27, 3) := by decide +kernel
theorem dX3_read_137 : decode cX3_read 137 = .ok (.aload_n 1, 1) := by decide +kernel
theorem dX3_read_138 : decode cX3_read 138 = .ok (.iconst 4, 1) := by decide +kernel
theorem dX3_read_139 : decode cX3_read 139 = .ok (.iload 8, 2) := by decide +kernel
theorem dX3_read_141 : decode cX3_read 141 = .ok (.bipush 6, 2) := by decide +kernel
theorem dX3_read_143 : decode cX3_read 143 = .ok (.imul, 1) := by decide +kernel
theorem dX3_read_144 : decode cX3_read 144 = .ok (.iadd, 1) := by decide +kernel
theorem dX3_read_145 : decode cX3_read 145 = .ok (.aload_n 3, 1) := by decide +kernel
theorem dX3_read_146 : decode cX3_read 146 = .ok (.aload 4, 2) := by decide +kernel
theorem dX3_read_148 : decode cX3_read 148 = .ok (.iload 8, 2) := by decide +kernel
theorem dX3_read_150 : decode cX3_read 150 = .ok (.invokestatic 73, 3) := by decide +kernel
theorem dX3_read_153 : decode cX3_read 153 = .ok (.istore 7, 2) := by decide +kernel
theorem dX3_read_155 : decode cX3_read 155 = .ok (.iinc 8 1, 3) := by decide +kernel
theorem dX3_read_158 : decode cX3_read 158 = .ok (.goto (-35), 3) := by decide +kernel
theorem dX3_read_161 : decode cX3_read 161 = .ok (.iconst 0, 1) := by decide +kernel
theorem dX3_read_162 : decode cX3_read 162 = .ok (.istore 8, 2) := by decide +kernel
theorem dX3_read_164 : decode cX3_read 164 = .ok (.iload 8, 2) := by decide +kernel
theorem dX3_read_166 : decode cX3_read 166 = .ok (.aload_n 3, 1) := by decide +kernel
theorem dX3_read_167 : decode cX3_read 167 = .ok (.getfield 55, 3) := by decide +kernel
theorem dX3_read_170 : decode cX3_read 170 = .ok (.if_icmp .ge 50, 3) := by decide +kernel
theorem dX3_read_173 : decode cX3_read 173 = .ok (.iload 7, 2) := by decide +kernel
theorem dX3_read_175 : decode cX3_read 175 = .ok (.ifCond .eq 45, 3) := by decide +kernel
theorem dX3_read_178 : decode cX3_read 178 = .ok (.aload_n 1, 1) := by decide +kernel
theorem dX3_read_179 : decode cX3_read 179 = .ok (.iload 5, 2) := by decide +kernel
theorem dX3_read_181 : decode cX3_read 181 = .ok (.iload 8, 2) := by decide +kernel
theorem dX3_read_183 : decode cX3_read 183 = .ok (.iadd, 1) := by decide +kernel
theorem dX3_read_184 : decode cX3_read 184 = .ok (.baload, 1) := by decide +kernel
theorem dX3_read_185 : decode cX3_read 185 = .ok (.invokestatic 77, 3) := by decide +kernel
theorem dX3_read_188 : decode cX3_read 188 = .ok (.istore 9, 2) := by decide +kernel
theorem dX3_read_190 : decode cX3_read 190 = .ok (.aload 4, 2) := by decide +kernel
theorem dX3_read_192 : decode cX3_read 192 = .ok (.getfield 58, 3) := by decide +kernel
theorem dX3_read_195 : decode cX3_read 195 = .ok (.iload 8, 2) := by decide +kernel
theorem dX3_read_197 : decode cX3_read 197 = .ok (.iload 9, 2) := by decide +kernel
theorem dX3_read_199 : decode cX3_read 199 = .ok (.iastore, 1) := by decide +kernel
theorem dX3_read_200 : decode cX3_read 200 = .ok (.iload 9, 2) := by decide +kernel
theorem dX3_read_202 : decode cX3_read 202 = .ok (.bipush 20, 2) := by decide +kernel
theorem dX3_read_204 : decode cX3_read 204 = .ok (.if_icmp .gt 7, 3) := by decide +kernel
theorem dX3_read_207 : decode cX3_read 207 = .ok (.iconst 1, 1) := by decide +kernel
theorem dX3_read_208 : decode cX3_read 208 = .ok (.goto 4, 3) := by decide +kernel
theorem dX3_read_211 : decode cX3_read 211 = .ok (.iconst 0, 1) := by decide +kernel
theorem dX3_read_212 : decode cX3_read 212 = .ok (.istore 7, 2) := by decide +kernel
theorem dX3_read_214 : decode cX3_read 214 = .ok (.iinc 8 1, 3) := by decide +kernel
theorem dX3_read_217 : decode cX3_read 217 = .ok (.goto (-53), 3) := by decide +kernel
theorem dX3_read_220 : decode cX3_read 220 = .ok (.iload 7, 2) := by decide +kernel
theorem dX3_read_222 : decode cX3_read 222 = .ok (.ifCond .eq 15, 3) := by decide +kernel
theorem dX3_read_225 : decode cX3_read 225 = .ok (.aload 4, 2) := by decide +kernel
theorem dX3_read_227 : decode cX3_read 227 = .ok (.invokestatic 81, 3) := by decide +kernel
theorem dX3_read_230 : decode cX3_read 230 = .ok (.ifCond .eq 7, 3) := by decide +kernel
theorem dX3_read_233 : decode cX3_read 233 = .ok (.iconst 1, 1) := by decide +kernel
theorem dX3_read_234 : decode cX3_read 234 = .ok (.goto 4, 3) := by decide +kernel
theorem dX3_read_237 : decode cX3_read 237 = .ok (.iconst 0, 1) := by decide +kernel
theorem dX3_read_238 : decode cX3_read 238 = .ok (.ireturn, 1) := by decide +kernel
theorem dX3_isChecked_0 : decode cX3_isChecked 0 = .ok (.sipush 241, 3) := by decide +kernel
theorem dX3_isChecked_3 : decode cX3_isChecked 3 = .ok (.istore_n 2, 1) := by decide +kernel
theorem dX3_isChecked_4 : decode cX3_isChecked 4 = .ok (.iconst 0, 1) := by decide +kernel
theorem dX3_isChecked_5 : decode cX3_isChecked 5 = .ok (.istore_n 3, 1) := by decide +kernel
theorem dX3_isChecked_6 : decode cX3_isChecked 6 = .ok (.iload_n 3, 1) := by decide +kernel
theorem dX3_isChecked_7 : decode cX3_isChecked 7 = .ok (.iload_n 1, 1) := by decide +kernel
theorem dX3_isChecked_8 : decode cX3_isChecked 8 = .ok (.if_icmp .ge 21, 3) := by decide +kernel
theorem dX3_isChecked_11 : decode cX3_isChecked 11 = .ok (.iload_n 2, 1) := by decide +kernel
theorem dX3_isChecked_12 : decode cX3_isChecked 12 = .ok (.aload_n 0, 1) := by decide +kernel
theorem dX3_isChecked_13 : decode cX3_isChecked 13 = .ok (.iload_n 3, 1) := by decide +kernel
theorem dX3_isChecked_14 : decode cX3_isChecked 14 = .ok (.baload, 1) := by decide +kernel
theorem dX3_isChecked_15 : decode cX3_isChecked 15 = .ok (.sipush 255, 3) := by decide +kernel
theorem dX3_isChecked_18 : decode cX3_isChecked 18 = .ok (.iand, 1) := by decide +kernel
theorem dX3_isChecked_19 : decode cX3_isChecked 19 = .ok (.invokestatic 61, 3) := by decide +kernel
theorem dX3_isChecked_22 : decode cX3_isChecked 22 = .ok (.istore_n 2, 1) := by decide +kernel
theorem dX3_isChecked_23 : decode cX3_isChecked 23 = .ok (.iinc 3 1, 3) := by decide +kernel
theorem dX3_isChecked_26 : decode cX3_isChecked 26 = .ok (.goto (-20), 3) := by decide +kernel
theorem dX3_isChecked_29 : decode cX3_isChecked 29 = .ok (.iload_n 2, 1) := by decide +kernel
theorem dX3_isChecked_30 : decode cX3_isChecked 30 = .ok (.aload_n 0, 1) := by decide +kernel
theorem dX3_isChecked_31 : decode cX3_isChecked 31 = .ok (.iload_n 1, 1) := by decide +kernel
theorem dX3_isChecked_32 : decode cX3_isChecked 32 = .ok (.baload, 1) := by decide +kernel
theorem dX3_isChecked_33 : decode cX3_isChecked 33 = .ok (.sipush 255, 3) := by decide +kernel
theorem dX3_isChecked_36 : decode cX3_isChecked 36 = .ok (.iand, 1) := by decide +kernel
theorem dX3_isChecked_37 : decode cX3_isChecked 37 = .ok (.if_icmp .ne 7, 3) := by decide +kernel
theorem dX3_isChecked_40 : decode cX3_isChecked 40 = .ok (.iconst 1, 1) := by decide +kernel
theorem dX3_isChecked_41 : decode cX3_isChecked 41 = .ok (.goto 4, 3) := by decide +kernel
theorem dX3_isChecked_44 : decode cX3_isChecked 44 = .ok (.iconst 0, 1) := by decide +kernel
theorem dX3_isChecked_45 : decode cX3_isChecked 45 = .ok (.ireturn, 1) := by decide +kernel
theorem dX3_byteOrNone_0 : decode cX3_byteOrNone 0 = .ok (.iload_n 0, 1) := by decide +kernel
theorem dX3_byteOrNone_1 : decode cX3_byteOrNone 1 = .ok (.sipush 255, 3) := by decide +kernel
theorem dX3_byteOrNone_4 : decode cX3_byteOrNone 4 = .ok (.iand, 1) := by decide +kernel
theorem dX3_byteOrNone_5 : decode cX3_byteOrNone 5 = .ok (.istore_n 1, 1) := by decide +kernel
theorem dX3_byteOrNone_6 : decode cX3_byteOrNone 6 = .ok (.iload_n 1, 1) := by decide +kernel
theorem dX3_byteOrNone_7 : decode cX3_byteOrNone 7 = .ok (.sipush 255, 3) := by decide +kernel
theorem dX3_byteOrNone_10 : decode cX3_byteOrNone 10 = .ok (.if_icmp .ne 7, 3) := by decide +kernel
theorem dX3_byteOrNone_13 : decode cX3_byteOrNone 13 = .ok (.iconst (-1), 1) := by decide +kernel
theorem dX3_byteOrNone_14 : decode cX3_byteOrNone 14 = .ok (.goto 4, 3) := by decide +kernel
theorem dX3_byteOrNone_17 : decode cX3_byteOrNone 17 = .ok (.iload_n 1, 1) := by decide +kernel
theorem dX3_byteOrNone_18 : decode cX3_byteOrNone 18 = .ok (.ireturn, 1) := by decide +kernel
theorem dX3_readChild_0 : decode cX3_readChild 0 = .ok (.aload_n 0, 1) := by decide +kernel
theorem dX3_readChild_1 : decode cX3_readChild 1 = .ok (.iload_n 1, 1) := by decide +kernel
theorem dX3_readChild_2 : decode cX3_readChild 2 = .ok (.iconst 1, 1) := by decide +kernel
theorem dX3_readChild_3 : decode cX3_readChild 3 = .ok (.iadd, 1) := by decide +kernel
theorem dX3_readChild_4 : decode cX3_readChild 4 = .ok (.baload, 1) := by decide +kernel
theorem dX3_readChild_5 : decode cX3_readChild 5 = .ok (.invokestatic 77, 3) := by decide +kernel
theorem dX3_readChild_8 : decode cX3_readChild 8 = .ok (.istore 5, 2) := by decide +kernel
theorem dX3_readChild_10 : decode cX3_readChild 10 = .ok (.aload_n 0, 1) := by decide +kernel
theorem dX3_readChild_11 : decode cX3_readChild 11 = .ok (.iload_n 1, 1) := by decide +kernel
theorem dX3_readChild_12 : decode cX3_readChild 12 = .ok (.iconst 2, 1) := by decide +kernel
theorem dX3_readChild_13 : decode cX3_readChild 13 = .ok (.iadd, 1) := by decide +kernel
theorem dX3_readChild_14 : decode cX3_readChild 14 = .ok (.baload, 1) := by decide +kernel
theorem dX3_readChild_15 : decode cX3_readChild 15 = .ok (.invokestatic 77, 3) := by decide +kernel
theorem dX3_readChild_18 : decode cX3_readChild 18 = .ok (.istore 6, 2) := by decide +kernel
theorem dX3_readChild_20 : decode cX3_readChild 20 = .ok (.aload_n 0, 1) := by decide +kernel
theorem dX3_readChild_21 : decode cX3_readChild 21 = .ok (.iload_n 1, 1) := by decide +kernel
theorem dX3_readChild_22 : decode cX3_readChild 22 = .ok (.iconst 3, 1) := by decide +kernel
theorem dX3_readChild_23 : decode cX3_readChild 23 = .ok (.iadd, 1) := by decide +kernel
theorem dX3_readChild_24 : decode cX3_readChild 24 = .ok (.baload, 1) := by decide +kernel
theorem dX3_readChild_25 : decode cX3_readChild 25 = .ok (.invokestatic 77, 3) := by decide +kernel
theorem dX3_readChild_28 : decode cX3_readChild 28 = .ok (.istore 7, 2) := by decide +kernel
theorem dX3_readChild_30 : decode cX3_readChild 30 = .ok (.aload_n 0, 1) := by decide +kernel
theorem dX3_readChild_31 : decode cX3_readChild 31 = .ok (.iload_n 1, 1) := by decide +kernel
theorem dX3_readChild_32 : decode cX3_readChild 32 = .ok (.iconst 4, 1) := by decide +kernel
theorem dX3_readChild_33 : decode cX3_readChild 33 = .ok (.iadd, 1) := by decide +kernel
theorem dX3_readChild_34 : decode cX3_readChild 34 = .ok (.baload, 1) := by decide +kernel
theorem dX3_readChild_35 : decode cX3_readChild 35 = .ok (.sipush 255, 3) := by decide +kernel
theorem dX3_readChild_38 : decode cX3_readChild 38 = .ok (.iand, 1) := by decide +kernel
theorem dX3_readChild_39 : decode cX3_readChild 39 = .ok (.istore 8, 2) := by decide +kernel
theorem dX3_readChild_41 : decode cX3_readChild 41 = .ok (.aload_n 0, 1) := by decide +kernel
theorem dX3_readChild_42 : decode cX3_readChild 42 = .ok (.iload_n 1, 1) := by decide +kernel
theorem dX3_readChild_43 : decode cX3_readChild 43 = .ok (.iconst 5, 1) := by decide +kernel
theorem dX3_readChild_44 : decode cX3_readChild 44 = .ok (.iadd, 1) := by decide +kernel
theorem dX3_readChild_45 : decode cX3_readChild 45 = .ok (.baload, 1) := by decide +kernel
theorem dX3_readChild_46 : decode cX3_readChild 46 = .ok (.sipush 255, 3) := by decide +kernel
theorem dX3_readChild_49 : decode cX3_readChild 49 = .ok (.iand, 1) := by decide +kernel
theorem dX3_readChild_50 : decode cX3_readChild 50 = .ok (.istore 9, 2) := by decide +kernel
theorem dX3_readChild_52 : decode cX3_readChild 52 = .ok (.iload 5, 2) := by decide +kernel
theorem dX3_readChild_54 : decode cX3_readChild 54 = .ok (.iconst (-1), 1) := by decide +kernel
theorem dX3_readChild_55 : decode cX3_readChild 55 = .ok (.if_icmp .ne 13, 3) := by decide +kernel
theorem dX3_readChild_58 : decode cX3_readChild 58 = .ok (.iload 6, 2) := by decide +kernel
theorem dX3_readChild_60 : decode cX3_readChild 60 = .ok (.iconst (-1), 1) := by decide +kernel
theorem dX3_readChild_61 : decode cX3_readChild 61 = .ok (.if_icmp .ne 7, 3) := by decide +kernel
theorem dX3_readChild_64 : decode cX3_readChild 64 = .ok (.iconst 1, 1) := by decide +kernel
theorem dX3_readChild_65 : decode cX3_readChild 65 = .ok (.goto 4, 3) := by decide +kernel
theorem dX3_readChild_68 : decode cX3_readChild 68 = .ok (.iconst 0, 1) := by decide +kernel
theorem dX3_readChild_69 : decode cX3_readChild 69 = .ok (.istore 10, 2) := by decide +kernel
theorem dX3_readChild_71 : decode cX3_readChild 71 = .ok (.aload_n 0, 1) := by decide +kernel
theorem dX3_readChild_72 : decode cX3_readChild 72 = .ok (.iload_n 1, 1) := by decide +kernel
theorem dX3_readChild_73 : decode cX3_readChild 73 = .ok (.baload, 1) := by decide +kernel
theorem dX3_readChild_74 : decode cX3_readChild 74 = .ok (.ifCond .ne 58, 3) := by decide +kernel
theorem dX3_readChild_77 : decode cX3_readChild 77 = .ok (.iload 10, 2) := by decide +kernel
theorem dX3_readChild_79 : decode cX3_readChild 79 = .ok (.ifCond .ne 15, 3) := by decide +kernel
theorem dX3_readChild_82 : decode cX3_readChild 82 = .ok (.aload_n 2, 1) := by decide +kernel
theorem dX3_readChild_83 : decode cX3_readChild 83 = .ok (.aload_n 3, 1) := by decide +kernel
theorem dX3_readChild_84 : decode cX3_readChild 84 = .ok (.iload 5, 2) := by decide +kernel
theorem dX3_readChild_86 : decode cX3_readChild 86 = .ok (.iload 6, 2) := by decide +kernel
theorem dX3_readChild_88 : decode cX3_readChild 88 = .ok (.invokestatic 85, 3) := by decide +kernel
theorem dX3_readChild_91 : decode cX3_readChild 91 = .ok (.ifCond .eq 7, 3) := by decide +kernel
theorem dX3_readChild_94 : decode cX3_readChild 94 = .ok (.iconst 1, 1) := by decide +kernel
theorem dX3_readChild_95 : decode cX3_readChild 95 = .ok (.goto 4, 3) := by decide +kernel
theorem dX3_readChild_98 : decode cX3_readChild 98 = .ok (.iconst 0, 1) := by decide +kernel
theorem dX3_readChild_99 : decode cX3_readChild 99 = .ok (.istore 12, 2) := by decide +kernel
theorem dX3_readChild_101 : decode cX3_readChild 101 = .ok (.iload 12, 2) := by decide +kernel
theorem dX3_readChild_103 : decode cX3_readChild 103 = .ok (.ifCond .eq 23, 3) := by decide +kernel
theorem dX3_readChild_106 : decode cX3_readChild 106 = .ok (.iload 7, 2) := by decide +kernel
theorem dX3_readChild_108 : decode cX3_readChild 108 = .ok (.iconst (-1), 1) := by decide +kernel
theorem dX3_readChild_109 : decode cX3_readChild 109 = .ok (.if_icmp .ne 17, 3) := by decide +kernel
theorem dX3_readChild_112 : decode cX3_readChild 112 = .ok (.iload 8, 2) := by decide +kernel
theorem dX3_readChild_114 : decode cX3_readChild 114 = .ok (.ifCond .ne 12, 3) := by decide +kernel
theorem dX3_readChild_117 : decode cX3_readChild 117 = .ok (.iload 9, 2) := by decide +kernel
theorem dX3_readChild_119 : decode cX3_readChild 119 = .ok (.ifCond .ne 7, 3) := by decide +kernel
theorem dX3_readChild_122 : decode cX3_readChild 122 = .ok (.iconst 1, 1) := by decide +kernel
theorem dX3_readChild_123 : decode cX3_readChild 123 = .ok (.goto 4, 3) := by decide +kernel
theorem dX3_readChild_126 : decode cX3_readChild 126 = .ok (.iconst 0, 1) := by decide +kernel
theorem dX3_readChild_127 : decode cX3_readChild 127 = .ok (.istore 11, 2) := by decide +kernel
theorem dX3_readChild_129 : decode cX3_readChild 129 = .ok (.goto 53, 3) := by decide +kernel
theorem dX3_readChild_132 : decode cX3_readChild 132 = .ok (.iload 7, 2) := by decide +kernel
theorem dX3_readChild_134 : decode cX3_readChild 134 = .ok (.iconst (-1), 1) := by decide +kernel
theorem dX3_readChild_135 : decode cX3_readChild 135 = .ok (.if_icmp .eq 14, 3) := by decide +kernel
theorem dX3_readChild_138 : decode cX3_readChild 138 = .ok (.iload 7, 2) := by decide +kernel
theorem dX3_readChild_140 : decode cX3_readChild 140 = .ok (.bipush 99, 2) := by decide +kernel
theorem dX3_readChild_142 : decode cX3_readChild 142 = .ok (.if_icmp .gt 7, 3) := by decide +kernel
theorem dX3_readChild_145 : decode cX3_readChild 145 = .ok (.iconst 1, 1) := by decide +kernel
theorem dX3_readChild_146 : decode cX3_readChild 146 = .ok (.goto 4, 3) := by decide +kernel
theorem dX3_readChild_149 : decode cX3_readChild 149 = .ok (.iconst 0, 1) := by decide +kernel
theorem dX3_readChild_150 : decode cX3_readChild 150 = .ok (.istore 12, 2) := by decide +kernel
theorem dX3_readChild_152 : decode cX3_readChild 152 = .ok (.aload_n 0, 1) := by decide +kernel
theorem dX3_readChild_153 : decode cX3_readChild 153 = .ok (.iload_n 1, 1) := by decide +kernel
theorem dX3_readChild_154 : decode cX3_readChild 154 = .ok (.baload, 1) := by decide +kernel
theorem dX3_readChild_155 : decode cX3_readChild 155 = .ok (.iconst 1, 1) := by decide +kernel
theorem dX3_readChild_156 : decode cX3_readChild 156 = .ok (.if_icmp .ne 23, 3) := by decide +kernel
theorem dX3_readChild_159 : decode cX3_readChild 159 = .ok (.iload 10, 2) := by decide +kernel
theorem dX3_readChild_161 : decode cX3_readChild 161 = .ok (.ifCond .eq 18, 3) := by decide +kernel
theorem dX3_readChild_164 : decode cX3_readChild 164 = .ok (.iload 12, 2) := by decide +kernel
theorem dX3_readChild_166 : decode cX3_readChild 166 = .ok (.ifCond .eq 13, 3) := by decide +kernel
theorem dX3_readChild_169 : decode cX3_readChild 169 = .ok (.iload 8, 2) := by decide +kernel
theorem dX3_readChild_171 : decode cX3_readChild 171 = .ok (.iconst 1, 1) := by decide +kernel
theorem dX3_readChild_172 : decode cX3_readChild 172 = .ok (.if_icmp .gt 7, 3) := by decide +kernel
theorem dX3_readChild_175 : decode cX3_readChild 175 = .ok (.iconst 1, 1) := by decide +kernel
theorem dX3_readChild_176 : decode cX3_readChild 176 = .ok (.goto 4, 3) := by decide +kernel
theorem dX3_readChild_179 : decode cX3_readChild 179 = .ok (.iconst 0, 1) := by decide +kernel
theorem dX3_readChild_180 : decode cX3_readChild 180 = .ok (.istore 11, 2) := by decide +kernel
theorem dX3_readChild_182 : decode cX3_readChild 182 = .ok (.aload_n 3, 1) := by decide +kernel
theorem dX3_readChild_183 : decode cX3_readChild 183 = .ok (.getfield 40, 3) := by decide +kernel
theorem dX3_readChild_186 : decode cX3_readChild 186 = .ok (.iload 4, 2) := by decide +kernel
theorem dX3_readChild_188 : decode cX3_readChild 188 = .ok (.iload 5, 2) := by decide +kernel
theorem dX3_readChild_190 : decode cX3_readChild 190 = .ok (.iastore, 1) := by decide +kernel
theorem dX3_readChild_191 : decode cX3_readChild 191 = .ok (.aload_n 3, 1) := by decide +kernel
theorem dX3_readChild_192 : decode cX3_readChild 192 = .ok (.getfield 43, 3) := by decide +kernel
theorem dX3_readChild_195 : decode cX3_readChild 195 = .ok (.iload 4, 2) := by decide +kernel
theorem dX3_readChild_197 : decode cX3_readChild 197 = .ok (.iload 6, 2) := by decide +kernel
theorem dX3_readChild_199 : decode cX3_readChild 199 = .ok (.iastore, 1) := by decide +kernel
theorem dX3_readChild_200 : decode cX3_readChild 200 = .ok (.aload_n 3, 1) := by decide +kernel
theorem dX3_readChild_201 : decode cX3_readChild 201 = .ok (.getfield 46, 3) := by decide +kernel
theorem dX3_readChild_204 : decode cX3_readChild 204 = .ok (.iload 4, 2) := by decide +kernel
theorem dX3_readChild_206 : decode cX3_readChild 206 = .ok (.iload 7, 2) := by decide +kernel
theorem dX3_readChild_208 : decode cX3_readChild 208 = .ok (.iastore, 1) := by decide +kernel
theorem dX3_readChild_209 : decode cX3_readChild 209 = .ok (.aload_n 3, 1) := by decide +kernel
theorem dX3_readChild_210 : decode cX3_readChild 210 = .ok (.getfield 49, 3) := by decide +kernel
theorem dX3_readChild_213 : decode cX3_readChild 213 = .ok (.iload 4, 2) := by decide +kernel
theorem dX3_readChild_215 : decode cX3_readChild 215 = .ok (.iload 8, 2) := by decide +kernel
theorem dX3_readChild_217 : decode cX3_readChild 217 = .ok (.iastore, 1) := by decide +kernel
theorem dX3_readChild_218 : decode cX3_readChild 218 = .ok (.aload_n 3, 1) := by decide +kernel
theorem dX3_readChild_219 : decode cX3_readChild 219 = .ok (.getfield 52, 3) := by decide +kernel
theorem dX3_readChild_222 : decode cX3_readChild 222 = .ok (.iload 4, 2) := by decide +kernel
theorem dX3_readChild_224 : decode cX3_readChild 224 = .ok (.iload 9, 2) := by decide +kernel
theorem dX3_readChild_226 : decode cX3_readChild 226 = .ok (.iastore, 1) := by decide +kernel
theorem dX3_readChild_227 : decode cX3_readChild 227 = .ok (.iload 11, 2) := by decide +kernel
theorem dX3_readChild_229 : decode cX3_readChild 229 = .ok (.ireturn, 1) := by decide +kernel
theorem dX3_isFree_0 : decode cX3_isFree 0 = .ok (.iload_n 2, 1) := by decide +kernel
theorem dX3_isFree_1 : decode cX3_isFree 1 = .ok (.ifCond .lt 29, 3) := by decide +kernel
theorem dX3_isFree_4 : decode cX3_isFree 4 = .ok (.iload_n 2, 1) := by decide +kernel
theorem dX3_isFree_5 : decode cX3_isFree 5 = .ok (.aload_n 0, 1) := by decide +kernel
theorem dX3_isFree_6 : decode cX3_isFree 6 = .ok (.getfield 55, 3) := by decide +kernel
theorem dX3_isFree_9 : decode cX3_isFree 9 = .ok (.if_icmp .ge 21, 3) := by decide +kernel
theorem dX3_isFree_12 : decode cX3_isFree 12 = .ok (.iload_n 3, 1) := by decide +kernel
theorem dX3_isFree_13 : decode cX3_isFree 13 = .ok (.ifCond .lt 17, 3) := by decide +kernel
theorem dX3_isFree_16 : decode cX3_isFree 16 = .ok (.iload_n 3, 1) := by decide +kernel
theorem dX3_isFree_17 : decode cX3_isFree 17 = .ok (.aload_n 0, 1) := by decide +kernel
theorem dX3_isFree_18 : decode cX3_isFree 18 = .ok (.getfield 89, 3) := by decide +kernel
theorem dX3_isFree_21 : decode cX3_isFree 21 = .ok (.iload_n 2, 1) := by decide +kernel
theorem dX3_isFree_22 : decode cX3_isFree 22 = .ok (.iaload, 1) := by decide +kernel
theorem dX3_isFree_23 : decode cX3_isFree 23 = .ok (.if_icmp .ge 7, 3) := by decide +kernel
theorem dX3_isFree_26 : decode cX3_isFree 26 = .ok (.iconst 1, 1) := by decide +kernel
theorem dX3_isFree_27 : decode cX3_isFree 27 = .ok (.goto 4, 3) := by decide +kernel
theorem dX3_isFree_30 : decode cX3_isFree 30 = .ok (.iconst 0, 1) := by decide +kernel
theorem dX3_isFree_31 : decode cX3_isFree 31 = .ok (.istore 4, 2) := by decide +kernel
theorem dX3_isFree_33 : decode cX3_isFree 33 = .ok (.iload 4, 2) := by decide +kernel
theorem dX3_isFree_35 : decode cX3_isFree 35 = .ok (.ifCond .eq 17, 3) := by decide +kernel
theorem dX3_isFree_38 : decode cX3_isFree 38 = .ok (.aload_n 1, 1) := by decide +kernel
theorem dX3_isFree_39 : decode cX3_isFree 39 = .ok (.iload_n 2, 1) := by decide +kernel
theorem dX3_isFree_40 : decode cX3_isFree 40 = .ok (.iload_n 3, 1) := by decide +kernel
theorem dX3_isFree_41 : decode cX3_isFree 41 = .ok (.invokevirtual 92, 3) := by decide +kernel
theorem dX3_isFree_44 : decode cX3_isFree 44 = .ok (.iconst (-1), 1) := by decide +kernel
theorem dX3_isFree_45 : decode cX3_isFree 45 = .ok (.if_icmp .ne 7, 3) := by decide +kernel
theorem dX3_isFree_48 : decode cX3_isFree 48 = .ok (.iconst 1, 1) := by decide +kernel
theorem dX3_isFree_49 : decode cX3_isFree 49 = .ok (.goto 4, 3) := by decide +kernel
theorem dX3_isFree_52 : decode cX3_isFree 52 = .ok (.iconst 0, 1) := by decide +kernel
theorem dX3_isFree_53 : decode cX3_isFree 53 = .ok (.ireturn, 1) := by decide +kernel
theorem dX3_isStuckBothWays_0 : decode cX3_isStuckBothWays 0 = .ok (.iconst 0, 1) := by decide +kernel
theorem dX3_isStuckBothWays_1 : decode cX3_isStuckBothWays 1 = .ok (.istore_n 1, 1) := by decide +kernel
theorem dX3_isStuckBothWays_2 : decode cX3_isStuckBothWays 2 = .ok (.iload_n 1, 1) := by decide +kernel
theorem dX3_isStuckBothWays_3 : decode cX3_isStuckBothWays 3 = .ok (.bipush 8, 2) := by decide +kernel
theorem dX3_isStuckBothWays_5 : decode cX3_isStuckBothWays 5 = .ok (.if_icmp .ge 64, 3) := by decide +kernel
theorem dX3_isStuckBothWays_8 : decode cX3_isStuckBothWays 8 = .ok (.aload_n 0, 1) := by decide +kernel
theorem dX3_isStuckBothWays_9 : decode cX3_isStuckBothWays 9 = .ok (.getfield 52, 3) := by decide +kernel
theorem dX3_isStuckBothWays_12 : decode cX3_isStuckBothWays 12 = .ok (.iload_n 1, 1) := by decide +kernel
theorem dX3_isStuckBothWays_13 : decode cX3_isStuckBothWays 13 = .ok (.iaload, 1) := by decide +kernel
theorem dX3_isStuckBothWays_14 : decode cX3_isStuckBothWays 14 = .ok (.iload_n 1, 1) := by decide +kernel
theorem dX3_isStuckBothWays_15 : decode cX3_isStuckBothWays 15 = .ok (.ishr, 1) := by decide +kernel
theorem dX3_isStuckBothWays_16 : decode cX3_isStuckBothWays 16 = .ok (.iconst 1, 1) := by decide +kernel
theorem dX3_isStuckBothWays_17 : decode cX3_isStuckBothWays 17 = .ok (.iand, 1) := by decide +kernel
theorem dX3_isStuckBothWays_18 : decode cX3_isStuckBothWays 18 = .ok (.iconst 1, 1) := by decide +kernel
theorem dX3_isStuckBothWays_19 : decode cX3_isStuckBothWays 19 = .ok (.if_icmp .ne 5, 3) := by decide +kernel
theorem dX3_isStuckBothWays_22 : decode cX3_isStuckBothWays 22 = .ok (.iconst 0, 1) := by decide +kernel
theorem dX3_isStuckBothWays_23 : decode cX3_isStuckBothWays 23 = .ok (.ireturn, 1) := by decide +kernel
theorem dX3_isStuckBothWays_24 : decode cX3_isStuckBothWays 24 = .ok (.iconst 0, 1) := by decide +kernel
theorem dX3_isStuckBothWays_25 : decode cX3_isStuckBothWays 25 = .ok (.istore_n 2, 1) := by decide +kernel
theorem dX3_isStuckBothWays_26 : decode cX3_isStuckBothWays 26 = .ok (.iload_n 2, 1) := by decide +kernel
theorem dX3_isStuckBothWays_27 : decode cX3_isStuckBothWays 27 = .ok (.bipush 8, 2) := by decide +kernel
theorem dX3_isStuckBothWays_29 : decode cX3_isStuckBothWays 29 = .ok (.if_icmp .ge 34, 3) := by decide +kernel
theorem dX3_isStuckBothWays_32 : decode cX3_isStuckBothWays 32 = .ok (.aload_n 0, 1) := by decide +kernel
theorem dX3_isStuckBothWays_33 : decode cX3_isStuckBothWays 33 = .ok (.getfield 52, 3) := by decide +kernel
theorem dX3_isStuckBothWays_36 : decode cX3_isStuckBothWays 36 = .ok (.iload_n 1, 1) := by decide +kernel
theorem dX3_isStuckBothWays_37 : decode cX3_isStuckBothWays 37 = .ok (.iaload, 1) := by decide +kernel
theorem dX3_isStuckBothWays_38 : decode cX3_isStuckBothWays 38 = .ok (.iload_n 2, 1) := by decide +kernel
theorem dX3_isStuckBothWays_39 : decode cX3_isStuckBothWays 39 = .ok (.ishr, 1) := by decide +kernel
theorem dX3_isStuckBothWays_40 : decode cX3_isStuckBothWays 40 = .ok (.iconst 1, 1) := by decide +kernel
theorem dX3_isStuckBothWays_41 : decode cX3_isStuckBothWays 41 = .ok (.iand, 1) := by decide +kernel
theorem dX3_isStuckBothWays_42 : decode cX3_isStuckBothWays 42 = .ok (.aload_n 0, 1) := by decide +kernel
theorem dX3_isStuckBothWays_43 : decode cX3_isStuckBothWays 43 = .ok (.getfield 52, 3) := by decide +kernel
theorem dX3_isStuckBothWays_46 : decode cX3_isStuckBothWays 46 = .ok (.iload_n 2, 1) := by decide +kernel
theorem dX3_isStuckBothWays_47 : decode cX3_isStuckBothWays 47 = .ok (.iaload, 1) := by decide +kernel
theorem dX3_isStuckBothWays_48 : decode cX3_isStuckBothWays 48 = .ok (.iload_n 1, 1) := by decide +kernel
theorem dX3_isStuckBothWays_49 : decode cX3_isStuckBothWays 49 = .ok (.ishr, 1) := by decide +kernel
theorem dX3_isStuckBothWays_50 : decode cX3_isStuckBothWays 50 = .ok (.iconst 1, 1) := by decide +kernel
theorem dX3_isStuckBothWays_51 : decode cX3_isStuckBothWays 51 = .ok (.iand, 1) := by decide +kernel
theorem dX3_isStuckBothWays_52 : decode cX3_isStuckBothWays 52 = .ok (.if_icmp .eq 5, 3) := by decide +kernel
theorem dX3_isStuckBothWays_55 : decode cX3_isStuckBothWays 55 = .ok (.iconst 0, 1) := by decide +kernel
theorem dX3_isStuckBothWays_56 : decode cX3_isStuckBothWays 56 = .ok (.ireturn, 1) := by decide +kernel
theorem dX3_isStuckBothWays_57 : decode cX3_isStuckBothWays 57 = .ok (.iinc 2 1, 3) := by decide +kernel
theorem dX3_isStuckBothWays_60 : decode cX3_isStuckBothWays 60 = .ok (.goto (-34), 3) := by decide +kernel
theorem dX3_isStuckBothWays_63 : decode cX3_isStuckBothWays 63 = .ok (.iinc 1 1, 3) := by decide +kernel
theorem dX3_isStuckBothWays_66 : decode cX3_isStuckBothWays 66 = .ok (.goto (-64), 3) := by decide +kernel
theorem dX3_isStuckBothWays_69 : decode cX3_isStuckBothWays 69 = .ok (.iconst 1, 1) := by decide +kernel
theorem dX3_isStuckBothWays_70 : decode cX3_isStuckBothWays 70 = .ok (.ireturn, 1) := by decide +kernel
theorem dX4_init_0 : decode cX4_init 0 = .ok (.aload_n 0, 1) := by decide +kernel
theorem dX4_init_1 : decode cX4_init 1 = .ok (.invokespecial 3, 3) := by decide +kernel
theorem dX4_init_4 : decode cX4_init 4 = .ok (.aload_n 0, 1) := by decide +kernel
theorem dX4_init_5 : decode cX4_init 5 = .ok (.new 9, 3) := by decide +kernel
theorem dX4_init_8 : decode cX4_init 8 = .ok (.dup, 1) := by decide +kernel
theorem dX4_init_9 : decode cX4_init 9 = .ok (.invokespecial 11, 3) := by decide +kernel
theorem dX4_init_12 : decode cX4_init 12 = .ok (.putfield 12, 3) := by decide +kernel
theorem dX4_init_15 : decode cX4_init 15 = .ok (.aload_n 0, 1) := by decide +kernel
theorem dX4_init_16 : decode cX4_init 16 = .ok (.aload_n 1, 1) := by decide +kernel
theorem dX4_init_17 : decode cX4_init 17 = .ok (.putfield 18, 3) := by decide +kernel
theorem dX4_init_20 : decode cX4_init 20 = .ok (.return_, 1) := by decide +kernel
theorem dX4_temperOf_0 : decode cX4_temperOf 0 = .ok (.aload_n 0, 1) := by decide +kernel
theorem dX4_temperOf_1 : decode cX4_temperOf 1 = .ok (.getfield 18, 3) := by decide +kernel
theorem dX4_temperOf_4 : decode cX4_temperOf 4 = .ok (.sipush 261, 3) := by decide +kernel
theorem dX4_temperOf_7 : decode cX4_temperOf 7 = .ok (.invokevirtual 24, 3) := by decide +kernel
theorem dX4_temperOf_10 : decode cX4_temperOf 10 = .ok (.ifCond .ne 12, 3) := by decide +kernel
theorem dX4_temperOf_13 : decode cX4_temperOf 13 = .ok (.bipush 99, 2) := by decide +kernel
theorem dX4_temperOf_15 : decode cX4_temperOf 15 = .ok (.iconst 4, 1) := by decide +kernel
theorem dX4_temperOf_16 : decode cX4_temperOf 16 = .ok (.iload_n 2, 1) := by decide +kernel
theorem dX4_temperOf_17 : decode cX4_temperOf 17 = .ok (.imul, 1) := by decide +kernel
theorem dX4_temperOf_18 : decode cX4_temperOf 18 = .ok (.invokestatic 30, 3) := by decide +kernel
theorem dX4_temperOf_21 : decode cX4_temperOf 21 = .ok (.ireturn, 1) := by decide +kernel
theorem dX4_temperOf_22 : decode cX4_temperOf 22 = .ok (.aload_n 0, 1) := by decide +kernel
theorem dX4_temperOf_23 : decode cX4_temperOf 23 = .ok (.iload_n 1, 1) := by decide +kernel
theorem dX4_temperOf_24 : decode cX4_temperOf 24 = .ok (.iload_n 2, 1) := by decide +kernel
theorem dX4_temperOf_25 : decode cX4_temperOf 25 = .ok (.iload_n 3, 1) := by decide +kernel
theorem dX4_temperOf_26 : decode cX4_temperOf 26 = .ok (.iload 4, 2) := by decide +kernel
theorem dX4_temperOf_28 : decode cX4_temperOf 28 = .ok (.invokevirtual 36, 3) := by decide +kernel
theorem dX4_temperOf_31 : decode cX4_temperOf 31 = .ok (.aload_n 0, 1) := by decide +kernel
theorem dX4_temperOf_32 : decode cX4_temperOf 32 = .ok (.getfield 12, 3) := by decide +kernel
theorem dX4_temperOf_35 : decode cX4_temperOf 35 = .ok (.aload_n 0, 1) := by decide +kernel
theorem dX4_temperOf_36 : decode cX4_temperOf 36 = .ok (.getfield 18, 3) := by decide +kernel
theorem dX4_temperOf_39 : decode cX4_temperOf 39 = .ok (.sipush 261, 3) := by decide +kernel
theorem dX4_temperOf_42 : decode cX4_temperOf 42 = .ok (.invokevirtual 40, 3) := by decide +kernel
theorem dX4_temperOf_45 : decode cX4_temperOf 45 = .ok (.istore 5, 2) := by decide +kernel
theorem dX4_temperOf_47 : decode cX4_temperOf 47 = .ok (.iconst 0, 1) := by decide +kernel
theorem dX4_temperOf_48 : decode cX4_temperOf 48 = .ok (.bipush 99, 2) := by decide +kernel
theorem dX4_temperOf_50 : decode cX4_temperOf 50 = .ok (.iload 5, 2) := by decide +kernel
theorem dX4_temperOf_52 : decode cX4_temperOf 52 = .ok (.invokestatic 30, 3) := by decide +kernel
theorem dX4_temperOf_55 : decode cX4_temperOf 55 = .ok (.invokestatic 44, 3) := by decide +kernel
theorem dX4_temperOf_58 : decode cX4_temperOf 58 = .ok (.ireturn, 1) := by decide +kernel
theorem dX4_isCracked_0 : decode cX4_isCracked 0 = .ok (.aload_n 0, 1) := by decide +kernel
theorem dX4_isCracked_1 : decode cX4_isCracked 1 = .ok (.getfield 18, 3) := by decide +kernel
theorem dX4_isCracked_4 : decode cX4_isCracked 4 = .ok (.sipush 262, 3) := by decide +kernel
theorem dX4_isCracked_7 : decode cX4_isCracked 7 = .ok (.invokevirtual 24, 3) := by decide +kernel
theorem dX4_isCracked_10 : decode cX4_isCracked 10 = .ok (.ifCond .ne 5, 3) := by decide +kernel
theorem dX4_isCracked_13 : decode cX4_isCracked 13 = .ok (.iconst 0, 1) := by decide +kernel
theorem dX4_isCracked_14 : decode cX4_isCracked 14 = .ok (.ireturn, 1) := by decide +kernel
theorem dX4_isCracked_15 : decode cX4_isCracked 15 = .ok (.aload_n 0, 1) := by decide +kernel
theorem dX4_isCracked_16 : decode cX4_isCracked 16 = .ok (.iload_n 1, 1) := by decide +kernel
theorem dX4_isCracked_17 : decode cX4_isCracked 17 = .ok (.iload_n 2, 1) := by decide +kernel
theorem dX4_isCracked_18 : decode cX4_isCracked 18 = .ok (.iload_n 3, 1) := by decide +kernel
theorem dX4_isCracked_19 : decode cX4_isCracked 19 = .ok (.iload 4, 2) := by decide +kernel
theorem dX4_isCracked_21 : decode cX4_isCracked 21 = .ok (.invokevirtual 36, 3) := by decide +kernel
theorem dX4_isCracked_24 : decode cX4_isCracked 24 = .ok (.aload_n 0, 1) := by decide +kernel
theorem dX4_isCracked_25 : decode cX4_isCracked 25 = .ok (.getfield 12, 3) := by decide +kernel
theorem dX4_isCracked_28 : decode cX4_isCracked 28 = .ok (.sipush 271, 3) := by decide +kernel
theorem dX4_isCracked_31 : decode cX4_isCracked 31 = .ok (.iload 5, 2) := by decide +kernel
theorem dX4_isCracked_33 : decode cX4_isCracked 33 = .ok (.invokevirtual 47, 3) := by decide +kernel
theorem dX4_isCracked_36 : decode cX4_isCracked 36 = .ok (.aload_n 0, 1) := by decide +kernel
theorem dX4_isCracked_37 : decode cX4_isCracked 37 = .ok (.getfield 12, 3) := by decide +kernel
theorem dX4_isCracked_40 : decode cX4_isCracked 40 = .ok (.aload_n 0, 1) := by decide +kernel
theorem dX4_isCracked_41 : decode cX4_isCracked 41 = .ok (.getfield 18, 3) := by decide +kernel
theorem dX4_isCracked_44 : decode cX4_isCracked 44 = .ok (.sipush 262, 3) := by decide +kernel
theorem dX4_isCracked_47 : decode cX4_isCracked 47 = .ok (.invokevirtual 40, 3) := by decide +kernel
theorem dX4_isCracked_50 : decode cX4_isCracked 50 = .ok (.iconst 1, 1) := by decide +kernel
theorem dX4_isCracked_51 : decode cX4_isCracked 51 = .ok (.if_icmp .ne 7, 3) := by decide +kernel
theorem dX4_isCracked_54 : decode cX4_isCracked 54 = .ok (.iconst 1, 1) := by decide +kernel
theorem dX4_isCracked_55 : decode cX4_isCracked 55 = .ok (.goto 4, 3) := by decide +kernel
theorem dX4_isCracked_58 : decode cX4_isCracked 58 = .ok (.iconst 0, 1) := by decide +kernel
theorem dX4_isCracked_59 : decode cX4_isCracked 59 = .ok (.ireturn, 1) := by decide +kernel
theorem dX4_tellChild_0 : decode cX4_tellChild 0 = .ok (.aload_n 0, 1) := by decide +kernel
theorem dX4_tellChild_1 : decode cX4_tellChild 1 = .ok (.getfield 12, 3) := by decide +kernel
theorem dX4_tellChild_4 : decode cX4_tellChild 4 = .ok (.sipush 268, 3) := by decide +kernel
theorem dX4_tellChild_7 : decode cX4_tellChild 7 = .ok (.iload_n 2, 1) := by decide +kernel
theorem dX4_tellChild_8 : decode cX4_tellChild 8 = .ok (.invokevirtual 47, 3) := by decide +kernel
theorem dX4_tellChild_11 : decode cX4_tellChild 11 = .ok (.aload_n 0, 1) := by decide +kernel
theorem dX4_tellChild_12 : decode cX4_tellChild 12 = .ok (.getfield 12, 3) := by decide +kernel
theorem dX4_tellChild_15 : decode cX4_tellChild 15 = .ok (.sipush 269, 3) := by decide +kernel
theorem dX4_tellChild_18 : decode cX4_tellChild 18 = .ok (.iload 4, 2) := by decide +kernel
theorem dX4_tellChild_20 : decode cX4_tellChild 20 = .ok (.invokevirtual 47, 3) := by decide +kernel
theorem dX4_tellChild_23 : decode cX4_tellChild 23 = .ok (.aload_n 0, 1) := by decide +kernel
theorem dX4_tellChild_24 : decode cX4_tellChild 24 = .ok (.getfield 12, 3) := by decide +kernel
theorem dX4_tellChild_27 : decode cX4_tellChild 27 = .ok (.sipush 257, 3) := by decide +kernel
theorem dX4_tellChild_30 : decode cX4_tellChild 30 = .ok (.aload_n 0, 1) := by decide +kernel
theorem dX4_tellChild_31 : decode cX4_tellChild 31 = .ok (.getfield 18, 3) := by decide +kernel
theorem dX4_tellChild_34 : decode cX4_tellChild 34 = .ok (.getfield 51, 3) := by decide +kernel
theorem dX4_tellChild_37 : decode cX4_tellChild 37 = .ok (.iload_n 1, 1) := by decide +kernel
theorem dX4_tellChild_38 : decode cX4_tellChild 38 = .ok (.iaload, 1) := by decide +kernel
theorem dX4_tellChild_39 : decode cX4_tellChild 39 = .ok (.invokevirtual 47, 3) := by decide +kernel
theorem dX4_tellChild_42 : decode cX4_tellChild 42 = .ok (.aload_n 0, 1) := by decide +kernel
theorem dX4_tellChild_43 : decode cX4_tellChild 43 = .ok (.getfield 12, 3) := by decide +kernel
theorem dX4_tellChild_46 : decode cX4_tellChild 46 = .ok (.sipush 258, 3) := by decide +kernel
theorem dX4_tellChild_49 : decode cX4_tellChild 49 = .ok (.aload_n 0, 1) := by decide +kernel
theorem dX4_tellChild_50 : decode cX4_tellChild 50 = .ok (.getfield 18, 3) := by decide +kernel
theorem dX4_tellChild_53 : decode cX4_tellChild 53 = .ok (.getfield 55, 3) := by decide +kernel
theorem dX4_tellChild_56 : decode cX4_tellChild 56 = .ok (.iload_n 1, 1) := by decide +kernel
theorem dX4_tellChild_57 : decode cX4_tellChild 57 = .ok (.iaload, 1) := by decide +kernel
theorem dX4_tellChild_58 : decode cX4_tellChild 58 = .ok (.invokevirtual 47, 3) := by decide +kernel
theorem dX4_tellChild_61 : decode cX4_tellChild 61 = .ok (.aload_n 0, 1) := by decide +kernel
theorem dX4_tellChild_62 : decode cX4_tellChild 62 = .ok (.getfield 12, 3) := by decide +kernel
theorem dX4_tellChild_65 : decode cX4_tellChild 65 = .ok (.sipush 270, 3) := by decide +kernel
theorem dX4_tellChild_68 : decode cX4_tellChild 68 = .ok (.iload_n 3, 1) := by decide +kernel
theorem dX4_tellChild_69 : decode cX4_tellChild 69 = .ok (.invokevirtual 47, 3) := by decide +kernel
theorem dX4_tellChild_72 : decode cX4_tellChild 72 = .ok (.return_, 1) := by decide +kernel
theorem dX4_isStuck_0 : decode cX4_isStuck 0 = .ok (.aload_n 0, 1) := by decide +kernel
theorem dX4_isStuck_1 : decode cX4_isStuck 1 = .ok (.getfield 18, 3) := by decide +kernel
theorem dX4_isStuck_4 : decode cX4_isStuck 4 = .ok (.sipush 263, 3) := by decide +kernel
theorem dX4_isStuck_7 : decode cX4_isStuck 7 = .ok (.invokevirtual 24, 3) := by decide +kernel
theorem dX4_isStuck_10 : decode cX4_isStuck 10 = .ok (.ifCond .ne 5, 3) := by decide +kernel
theorem dX4_isStuck_13 : decode cX4_isStuck 13 = .ok (.iconst 0, 1) := by decide +kernel
theorem dX4_isStuck_14 : decode cX4_isStuck 14 = .ok (.ireturn, 1) := by decide +kernel
theorem dX4_isStuck_15 : decode cX4_isStuck 15 = .ok (.aload_n 0, 1) := by decide +kernel
theorem dX4_isStuck_16 : decode cX4_isStuck 16 = .ok (.getfield 12, 3) := by decide +kernel
theorem dX4_isStuck_19 : decode cX4_isStuck 19 = .ok (.sipush 268, 3) := by decide +kernel
theorem dX4_isStuck_22 : decode cX4_isStuck 22 = .ok (.iload 4, 2) := by decide +kernel
theorem dX4_isStuck_24 : decode cX4_isStuck 24 = .ok (.invokevirtual 47, 3) := by decide +kernel
theorem dX4_isStuck_27 : decode cX4_isStuck 27 = .ok (.aload_n 0, 1) := by decide +kernel
theorem dX4_isStuck_28 : decode cX4_isStuck 28 = .ok (.getfield 12, 3) := by decide +kernel
theorem dX4_isStuck_31 : decode cX4_isStuck 31 = .ok (.sipush 269, 3) := by decide +kernel
theorem dX4_isStuck_34 : decode cX4_isStuck 34 = .ok (.iload 5, 2) := by decide +kernel
theorem dX4_isStuck_36 : decode cX4_isStuck 36 = .ok (.invokevirtual 47, 3) := by decide +kernel
theorem dX4_isStuck_39 : decode cX4_isStuck 39 = .ok (.aload_n 0, 1) := by decide +kernel
theorem dX4_isStuck_40 : decode cX4_isStuck 40 = .ok (.getfield 12, 3) := by decide +kernel
theorem dX4_isStuck_43 : decode cX4_isStuck 43 = .ok (.sipush 272, 3) := by decide +kernel
theorem dX4_isStuck_46 : decode cX4_isStuck 46 = .ok (.iload_n 3, 1) := by decide +kernel
theorem dX4_isStuck_47 : decode cX4_isStuck 47 = .ok (.invokestatic 58, 3) := by decide +kernel
theorem dX4_isStuck_50 : decode cX4_isStuck 50 = .ok (.invokevirtual 47, 3) := by decide +kernel
theorem dX4_isStuck_53 : decode cX4_isStuck 53 = .ok (.aload_n 0, 1) := by decide +kernel
theorem dX4_isStuck_54 : decode cX4_isStuck 54 = .ok (.getfield 12, 3) := by decide +kernel
theorem dX4_isStuck_57 : decode cX4_isStuck 57 = .ok (.sipush 273, 3) := by decide +kernel
theorem dX4_isStuck_60 : decode cX4_isStuck 60 = .ok (.aload_n 0, 1) := by decide +kernel
theorem dX4_isStuck_61 : decode cX4_isStuck 61 = .ok (.getfield 18, 3) := by decide +kernel
theorem dX4_isStuck_64 : decode cX4_isStuck 64 = .ok (.getfield 55, 3) := by decide +kernel
theorem dX4_isStuck_67 : decode cX4_isStuck 67 = .ok (.iload_n 1, 1) := by decide +kernel
theorem dX4_isStuck_68 : decode cX4_isStuck 68 = .ok (.iaload, 1) := by decide +kernel
theorem dX4_isStuck_69 : decode cX4_isStuck 69 = .ok (.aload_n 0, 1) := by decide +kernel
theorem dX4_isStuck_70 : decode cX4_isStuck 70 = .ok (.getfield 18, 3) := by decide +kernel
theorem dX4_isStuck_73 : decode cX4_isStuck 73 = .ok (.getfield 55, 3) := by decide +kernel
theorem dX4_isStuck_76 : decode cX4_isStuck 76 = .ok (.iload_n 2, 1) := by decide +kernel
theorem dX4_isStuck_77 : decode cX4_isStuck 77 = .ok (.iaload, 1) := by decide +kernel
theorem dX4_isStuck_78 : decode cX4_isStuck 78 = .ok (.iadd, 1) := by decide +kernel
theorem dX4_isStuck_79 : decode cX4_isStuck 79 = .ok (.invokevirtual 47, 3) := by decide +kernel
theorem dX4_isStuck_82 : decode cX4_isStuck 82 = .ok (.aload_n 0, 1) := by decide +kernel
theorem dX4_isStuck_83 : decode cX4_isStuck 83 = .ok (.getfield 12, 3) := by decide +kernel
theorem dX4_isStuck_86 : decode cX4_isStuck 86 = .ok (.aload_n 0, 1) := by decide +kernel
theorem dX4_isStuck_87 : decode cX4_isStuck 87 = .ok (.getfield 18, 3) := by decide +kernel
theorem dX4_isStuck_90 : decode cX4_isStuck 90 = .ok (.sipush 263, 3) := by decide +kernel
theorem dX4_isStuck_93 : decode cX4_isStuck 93 = .ok (.invokevirtual 40, 3) := by decide +kernel
theorem dX4_isStuck_96 : decode cX4_isStuck 96 = .ok (.iconst 1, 1) := by decide +kernel
theorem dX4_isStuck_97 : decode cX4_isStuck 97 = .ok (.if_icmp .ne 7, 3) := by decide +kernel
theorem dX4_isStuck_100 : decode cX4_isStuck 100 = .ok (.iconst 1, 1) := by decide +kernel
theorem dX4_isStuck_101 : decode cX4_isStuck 101 = .ok (.goto 4, 3) := by decide +kernel
theorem dX4_isStuck_104 : decode cX4_isStuck 104 = .ok (.iconst 0, 1) := by decide +kernel
theorem dX4_isStuck_105 : decode cX4_isStuck 105 = .ok (.ireturn, 1) := by decide +kernel
theorem dX4_burnt_0 : decode cX4_burnt 0 = .ok (.aload_n 1, 1) := by decide +kernel
theorem dX4_burnt_1 : decode cX4_burnt 1 = .ok (.getfield 62, 3) := by decide +kernel
theorem dX4_burnt_4 : decode cX4_burnt 4 = .ok (.iload_n 2, 1) := by decide +kernel
theorem dX4_burnt_5 : decode cX4_burnt 5 = .ok (.iaload, 1) := by decide +kernel
theorem dX4_burnt_6 : decode cX4_burnt 6 = .ok (.istore_n 3, 1) := by decide +kernel
theorem dX4_burnt_7 : decode cX4_burnt 7 = .ok (.aload_n 0, 1) := by decide +kernel
theorem dX4_burnt_8 : decode cX4_burnt 8 = .ok (.getfield 18, 3) := by decide +kernel
theorem dX4_burnt_11 : decode cX4_burnt 11 = .ok (.sipush 264, 3) := by decide +kernel
theorem dX4_burnt_14 : decode cX4_burnt 14 = .ok (.invokevirtual 24, 3) := by decide +kernel
theorem dX4_burnt_17 : decode cX4_burnt 17 = .ok (.ifCond .ne 5, 3) := by decide +kernel
theorem dX4_burnt_20 : decode cX4_burnt 20 = .ok (.iload_n 3, 1) := by decide +kernel
theorem dX4_burnt_21 : decode cX4_burnt 21 = .ok (.ireturn, 1) := by decide +kernel
theorem dX4_burnt_22 : decode cX4_burnt 22 = .ok (.aload_n 0, 1) := by decide +kernel
theorem dX4_burnt_23 : decode cX4_burnt 23 = .ok (.getfield 12, 3) := by decide +kernel
theorem dX4_burnt_26 : decode cX4_burnt 26 = .ok (.sipush 268, 3) := by decide +kernel
theorem dX4_burnt_29 : decode cX4_burnt 29 = .ok (.iload_n 3, 1) := by decide +kernel
theorem dX4_burnt_30 : decode cX4_burnt 30 = .ok (.invokevirtual 47, 3) := by decide +kernel
theorem dX4_burnt_33 : decode cX4_burnt 33 = .ok (.aload_n 0, 1) := by decide +kernel
theorem dX4_burnt_34 : decode cX4_burnt 34 = .ok (.getfield 12, 3) := by decide +kernel
theorem dX4_burnt_37 : decode cX4_burnt 37 = .ok (.sipush 269, 3) := by decide +kernel
theorem dX4_burnt_40 : decode cX4_burnt 40 = .ok (.aload_n 1, 1) := by decide +kernel
theorem dX4_burnt_41 : decode cX4_burnt 41 = .ok (.getfield 67, 3) := by decide +kernel
theorem dX4_burnt_44 : decode cX4_burnt 44 = .ok (.invokevirtual 47, 3) := by decide +kernel
theorem dX4_burnt_47 : decode cX4_burnt 47 = .ok (.aload_n 0, 1) := by decide +kernel
theorem dX4_burnt_48 : decode cX4_burnt 48 = .ok (.getfield 12, 3) := by decide +kernel
theorem dX4_burnt_51 : decode cX4_burnt 51 = .ok (.sipush 260, 3) := by decide +kernel
theorem dX4_burnt_54 : decode cX4_burnt 54 = .ok (.aload_n 0, 1) := by decide +kernel
theorem dX4_burnt_55 : decode cX4_burnt 55 = .ok (.getfield 18, 3) := by decide +kernel
theorem dX4_burnt_58 : decode cX4_burnt 58 = .ok (.getfield 71, 3) := by decide +kernel
theorem dX4_burnt_61 : decode cX4_burnt 61 = .ok (.iload_n 2, 1) := by decide +kernel
theorem dX4_burnt_62 : decode cX4_burnt 62 = .ok (.iaload, 1) := by decide +kernel
theorem dX4_burnt_63 : decode cX4_burnt 63 = .ok (.invokevirtual 47, 3) := by decide +kernel
theorem dX4_burnt_66 : decode cX4_burnt 66 = .ok (.aload_n 0, 1) := by decide +kernel
theorem dX4_burnt_67 : decode cX4_burnt 67 = .ok (.getfield 12, 3) := by decide +kernel
theorem dX4_burnt_70 : decode cX4_burnt 70 = .ok (.sipush 274, 3) := by decide +kernel
theorem dX4_burnt_73 : decode cX4_burnt 73 = .ok (.aload_n 1, 1) := by decide +kernel
theorem dX4_burnt_74 : decode cX4_burnt 74 = .ok (.iload_n 2, 1) := by decide +kernel
theorem dX4_burnt_75 : decode cX4_burnt 75 = .ok (.invokevirtual 74, 3) := by decide +kernel
theorem dX4_burnt_78 : decode cX4_burnt 78 = .ok (.invokevirtual 47, 3) := by decide +kernel
theorem dX4_burnt_81 : decode cX4_burnt 81 = .ok (.iconst 0, 1) := by decide +kernel
theorem dX4_burnt_82 : decode cX4_burnt 82 = .ok (.aload_n 0, 1) := by decide +kernel
theorem dX4_burnt_83 : decode cX4_burnt 83 = .ok (.getfield 12, 3) := by decide +kernel
theorem dX4_burnt_86 : decode cX4_burnt 86 = .ok (.aload_n 0, 1) := by decide +kernel
theorem dX4_burnt_87 : decode cX4_burnt 87 = .ok (.getfield 18, 3) := by decide +kernel
theorem dX4_burnt_90 : decode cX4_burnt 90 = .ok (.sipush 264, 3) := by decide +kernel
theorem dX4_burnt_93 : decode cX4_burnt 93 = .ok (.invokevirtual 40, 3) := by decide +kernel
theorem dX4_burnt_96 : decode cX4_burnt 96 = .ok (.invokestatic 44, 3) := by decide +kernel
theorem dX4_burnt_99 : decode cX4_burnt 99 = .ok (.ireturn, 1) := by decide +kernel
theorem dX4_isSafe_0 : decode cX4_isSafe 0 = .ok (.iconst (-1), 1) := by decide +kernel
theorem dX4_isSafe_1 : decode cX4_isSafe 1 = .ok (.istore 4, 2) := by decide +kernel
theorem dX4_isSafe_3 : decode cX4_isSafe 3 = .ok (.iconst 0, 1) := by decide +kernel
theorem dX4_isSafe_4 : decode cX4_isSafe 4 = .ok (.istore 5, 2) := by decide +kernel
theorem dX4_isSafe_6 : decode cX4_isSafe 6 = .ok (.iconst 0, 1) := by decide +kernel
theorem dX4_isSafe_7 : decode cX4_isSafe 7 = .ok (.istore 6, 2) := by decide +kernel
theorem dX4_isSafe_9 : decode cX4_isSafe 9 = .ok (.iload 6, 2) := by decide +kernel
theorem dX4_isSafe_11 : decode cX4_isSafe 11 = .ok (.aload_n 0, 1) := by decide +kernel
theorem dX4_isSafe_12 : decode cX4_isSafe 12 = .ok (.getfield 18, 3) := by decide +kernel
theorem dX4_isSafe_15 : decode cX4_isSafe 15 = .ok (.getfield 71, 3) := by decide +kernel
theorem dX4_isSafe_18 : decode cX4_isSafe 18 = .ok (.iload_n 2, 1) := by decide +kernel
theorem dX4_isSafe_19 : decode cX4_isSafe 19 = .ok (.iaload, 1) := by decide +kernel
theorem dX4_isSafe_20 : decode cX4_isSafe 20 = .ok (.if_icmp .ge 96, 3) := by decide +kernel
theorem dX4_isSafe_23 : decode cX4_isSafe 23 = .ok (.aload_n 1, 1) := by decide +kernel
theorem dX4_isSafe_24 : decode cX4_isSafe 24 = .ok (.iload_n 2, 1) := by decide +kernel
theorem dX4_isSafe_25 : decode cX4_isSafe 25 = .ok (.iload 6, 2) := by decide +kernel
theorem dX4_isSafe_27 : decode cX4_isSafe 27 = .ok (.invokevirtual 77, 3) := by decide +kernel
theorem dX4_isSafe_30 : decode cX4_isSafe 30 = .ok (.istore 7, 2) := by decide +kernel
theorem dX4_isSafe_32 : decode cX4_isSafe 32 = .ok (.iload 7, 2) := by decide +kernel
theorem dX4_isSafe_34 : decode cX4_isSafe 34 = .ok (.iconst (-1), 1) := by decide +kernel
theorem dX4_isSafe_35 : decode cX4_isSafe 35 = .ok (.if_icmp .eq 71, 3) := by decide +kernel
theorem dX4_isSafe_38 : decode cX4_isSafe 38 = .ok (.aload_n 0, 1) := by decide +kernel
theorem dX4_isSafe_39 : decode cX4_isSafe 39 = .ok (.iload 7, 2) := by decide +kernel
theorem dX4_isSafe_41 : decode cX4_isSafe 41 = .ok (.iload_n 3, 1) := by decide +kernel
theorem dX4_isSafe_42 : decode cX4_isSafe 42 = .ok (.iload 6, 2) := by decide +kernel
theorem dX4_isSafe_44 : decode cX4_isSafe 44 = .ok (.aload_n 1, 1) := by decide +kernel
theorem dX4_isSafe_45 : decode cX4_isSafe 45 = .ok (.getfield 67, 3) := by decide +kernel
theorem dX4_isSafe_48 : decode cX4_isSafe 48 = .ok (.invokevirtual 80, 3) := by decide +kernel
theorem dX4_isSafe_51 : decode cX4_isSafe 51 = .ok (.istore 8, 2) := by decide +kernel
theorem dX4_isSafe_53 : decode cX4_isSafe 53 = .ok (.aload_n 0, 1) := by decide +kernel
theorem dX4_isSafe_54 : decode cX4_isSafe 54 = .ok (.iload 7, 2) := by decide +kernel
theorem dX4_isSafe_56 : decode cX4_isSafe 56 = .ok (.iload_n 3, 1) := by decide +kernel
theorem dX4_isSafe_57 : decode cX4_isSafe 57 = .ok (.iload 6, 2) := by decide +kernel
theorem dX4_isSafe_59 : decode cX4_isSafe 59 = .ok (.aload_n 1, 1) := by decide +kernel
theorem dX4_isSafe_60 : decode cX4_isSafe 60 = .ok (.getfield 67, 3) := by decide +kernel
theorem dX4_isSafe_63 : decode cX4_isSafe 63 = .ok (.iload 8, 2) := by decide +kernel
theorem dX4_isSafe_65 : decode cX4_isSafe 65 = .ok (.invokevirtual 84, 3) := by decide +kernel
theorem dX4_isSafe_68 : decode cX4_isSafe 68 = .ok (.ifCond .eq 5, 3) := by decide +kernel
theorem dX4_isSafe_71 : decode cX4_isSafe 71 = .ok (.iconst 0, 1) := by decide +kernel
theorem dX4_isSafe_72 : decode cX4_isSafe 72 = .ok (.ireturn, 1) := by decide +kernel
theorem dX4_isSafe_73 : decode cX4_isSafe 73 = .ok (.iload 4, 2) := by decide +kernel
theorem dX4_isSafe_75 : decode cX4_isSafe 75 = .ok (.iconst (-1), 1) := by decide +kernel
theorem dX4_isSafe_76 : decode cX4_isSafe 76 = .ok (.if_icmp .eq 26, 3) := by decide +kernel
theorem dX4_isSafe_79 : decode cX4_isSafe 79 = .ok (.aload_n 0, 1) := by decide +kernel
theorem dX4_isSafe_80 : decode cX4_isSafe 80 = .ok (.iload 4, 2) := by decide +kernel
theorem dX4_isSafe_82 : decode cX4_isSafe 82 = .ok (.iload 7, 2) := by decide +kernel
theorem dX4_isSafe_84 : decode cX4_isSafe 84 = .ok (.iload 5, 2) := by decide +kernel
theorem dX4_isSafe_86 : decode cX4_isSafe 86 = .ok (.iload 8, 2) := by decide +kernel
theorem dX4_isSafe_88 : decode cX4_isSafe 88 = .ok (.isub, 1) := by decide +kernel
theorem dX4_isSafe_89 : decode cX4_isSafe 89 = .ok (.iload_n 3, 1) := by decide +kernel
theorem dX4_isSafe_90 : decode cX4_isSafe 90 = .ok (.aload_n 1, 1) := by decide +kernel
theorem dX4_isSafe_91 : decode cX4_isSafe 91 = .ok (.getfield 67, 3) := by decide +kernel
theorem dX4_isSafe_94 : decode cX4_isSafe 94 = .ok (.invokevirtual 88, 3) := by decide +kernel
theorem dX4_isSafe_97 : decode cX4_isSafe 97 = .ok (.ifCond .eq 5, 3) := by decide +kernel
theorem dX4_isSafe_100 : decode cX4_isSafe 100 = .ok (.iconst 0, 1) := by decide +kernel
theorem dX4_isSafe_101 : decode cX4_isSafe 101 = .ok (.ireturn, 1) := by decide +kernel
theorem dX4_isSafe_102 : decode cX4_isSafe 102 = .ok (.iload 8, 2) := by decide +kernel
theorem dX4_isSafe_104 : decode cX4_isSafe 104 = .ok (.istore 5, 2) := by decide +kernel
theorem dX4_isSafe_106 : decode cX4_isSafe 106 = .ok (.iload 7, 2) := by decide +kernel
theorem dX4_isSafe_108 : decode cX4_isSafe 108 = .ok (.istore 4, 2) := by decide +kernel
theorem dX4_isSafe_110 : decode cX4_isSafe 110 = .ok (.iinc 6 1, 3) := by decide +kernel
theorem dX4_isSafe_113 : decode cX4_isSafe 113 = .ok (.goto (-104), 3) := by decide +kernel
theorem dX4_isSafe_116 : decode cX4_isSafe 116 = .ok (.iconst 1, 1) := by decide +kernel
theorem dX4_isSafe_117 : decode cX4_isSafe 117 = .ok (.ireturn, 1) := by decide +kernel
theorem dX4_passWeek_0 : decode cX4_passWeek 0 = .ok (.aload_n 1, 1) := by decide +kernel
theorem dX4_passWeek_1 : decode cX4_passWeek 1 = .ok (.sipush 9999, 3) := by decide +kernel
theorem dX4_passWeek_4 : decode cX4_passWeek 4 = .ok (.aload_n 1, 1) := by decide +kernel
theorem dX4_passWeek_5 : decode cX4_passWeek 5 = .ok (.getfield 91, 3) := by decide +kernel
theorem dX4_passWeek_8 : decode cX4_passWeek 8 = .ok (.aload_n 0, 1) := by decide +kernel
theorem dX4_passWeek_9 : decode cX4_passWeek 9 = .ok (.getfield 18, 3) := by decide +kernel
theorem dX4_passWeek_12 : decode cX4_passWeek 12 = .ok (.getfield 94, 3) := by decide +kernel
theorem dX4_passWeek_15 : decode cX4_passWeek 15 = .ok (.iadd, 1) := by decide +kernel
theorem dX4_passWeek_16 : decode cX4_passWeek 16 = .ok (.invokestatic 30, 3) := by decide +kernel
theorem dX4_passWeek_19 : decode cX4_passWeek 19 = .ok (.putfield 91, 3) := by decide +kernel
theorem dX4_passWeek_22 : decode cX4_passWeek 22 = .ok (.iconst 0, 1) := by decide +kernel
theorem dX4_passWeek_23 : decode cX4_passWeek 23 = .ok (.istore_n 3, 1) := by decide +kernel
theorem dX4_passWeek_24 : decode cX4_passWeek 24 = .ok (.iconst 0, 1) := by decide +kernel
theorem dX4_passWeek_25 : decode cX4_passWeek 25 = .ok (.istore 4, 2) := by decide +kernel
theorem dX4_passWeek_27 : decode cX4_passWeek 27 = .ok (.iload 4, 2) := by decide +kernel
theorem dX4_passWeek_29 : decode cX4_passWeek 29 = .ok (.aload_n 0, 1) := by decide +kernel
theorem dX4_passWeek_30 : decode cX4_passWeek 30 = .ok (.getfield 18, 3) := by decide +kernel
theorem dX4_passWeek_33 : decode cX4_passWeek 33 = .ok (.getfield 97, 3) := by decide +kernel
theorem dX4_passWeek_36 : decode cX4_passWeek 36 = .ok (.if_icmp .ge 40, 3) := by decide +kernel
theorem dX4_passWeek_39 : decode cX4_passWeek 39 = .ok (.aload_n 1, 1) := by decide +kernel
theorem dX4_passWeek_40 : decode cX4_passWeek 40 = .ok (.getfield 62, 3) := by decide +kernel
theorem dX4_passWeek_43 : decode cX4_passWeek 43 = .ok (.iload 4, 2) := by decide +kernel
theorem dX4_passWeek_45 : decode cX4_passWeek 45 = .ok (.iaload, 1) := by decide +kernel
theorem dX4_passWeek_46 : decode cX4_passWeek 46 = .ok (.iconst (-1), 1) := by decide +kernel
theorem dX4_passWeek_47 : decode cX4_passWeek 47 = .ok (.if_icmp .eq 23, 3) := by decide +kernel
theorem dX4_passWeek_50 : decode cX4_passWeek 50 = .ok (.aload_n 1, 1) := by decide +kernel
theorem dX4_passWeek_51 : decode cX4_passWeek 51 = .ok (.iload 4, 2) := by decide +kernel
theorem dX4_passWeek_53 : decode cX4_passWeek 53 = .ok (.invokevirtual 74, 3) := by decide +kernel
theorem dX4_passWeek_56 : decode cX4_passWeek 56 = .ok (.ifCond .le 14, 3) := by decide +kernel
theorem dX4_passWeek_59 : decode cX4_passWeek 59 = .ok (.iload_n 3, 1) := by decide +kernel
theorem dX4_passWeek_60 : decode cX4_passWeek 60 = .ok (.aload_n 0, 1) := by decide +kernel
theorem dX4_passWeek_61 : decode cX4_passWeek 61 = .ok (.aload_n 1, 1) := by decide +kernel
theorem dX4_passWeek_62 : decode cX4_passWeek 62 = .ok (.iload 4, 2) := by decide +kernel
theorem dX4_passWeek_64 : decode cX4_passWeek 64 = .ok (.iload_n 2, 1) := by decide +kernel
theorem dX4_passWeek_65 : decode cX4_passWeek 65 = .ok (.invokevirtual 100, 3) := by decide +kernel
theorem dX4_passWeek_68 : decode cX4_passWeek 68 = .ok (.iadd, 1) := by decide +kernel
theorem dX4_passWeek_69 : decode cX4_passWeek 69 = .ok (.istore_n 3, 1) := by decide +kernel
theorem dX4_passWeek_70 : decode cX4_passWeek 70 = .ok (.iinc 4 1, 3) := by decide +kernel
theorem dX4_passWeek_73 : decode cX4_passWeek 73 = .ok (.goto (-46), 3) := by decide +kernel
theorem dX4_passWeek_76 : decode cX4_passWeek 76 = .ok (.aload_n 1, 1) := by decide +kernel
theorem dX4_passWeek_77 : decode cX4_passWeek 77 = .ok (.dup, 1) := by decide +kernel
theorem dX4_passWeek_78 : decode cX4_passWeek 78 = .ok (.getfield 67, 3) := by decide +kernel
theorem dX4_passWeek_81 : decode cX4_passWeek 81 = .ok (.iconst 1, 1) := by decide +kernel
theorem dX4_passWeek_82 : decode cX4_passWeek 82 = .ok (.iadd, 1) := by decide +kernel
theorem dX4_passWeek_83 : decode cX4_passWeek 83 = .ok (.putfield 67, 3) := by decide +kernel
theorem dX4_passWeek_86 : decode cX4_passWeek 86 = .ok (.iload_n 3, 1) := by decide +kernel
theorem dX4_passWeek_87 : decode cX4_passWeek 87 = .ok (.ireturn, 1) := by decide +kernel
theorem dX4_tryKiln_0 : decode cX4_tryKiln 0 = .ok (.aload_n 0, 1) := by decide +kernel
theorem dX4_tryKiln_1 : decode cX4_tryKiln 1 = .ok (.aload_n 1, 1) := by decide +kernel
theorem dX4_tryKiln_2 : decode cX4_tryKiln 2 = .ok (.iload_n 2, 1) := by decide +kernel
theorem dX4_tryKiln_3 : decode cX4_tryKiln 3 = .ok (.invokevirtual 104, 3) := by decide +kernel
theorem dX4_tryKiln_6 : decode cX4_tryKiln 6 = .ok (.istore 4, 2) := by decide +kernel
theorem dX4_tryKiln_8 : decode cX4_tryKiln 8 = .ok (.iload 4, 2) := by decide +kernel
theorem dX4_tryKiln_10 : decode cX4_tryKiln 10 = .ok (.aload_n 1, 1) := by decide +kernel
theorem dX4_tryKiln_11 : decode cX4_tryKiln 11 = .ok (.getfield 91, 3) := by decide +kernel
theorem dX4_tryKiln_14 : decode cX4_tryKiln 14 = .ok (.if_icmp .le 5, 3) := by decide +kernel
theorem dX4_tryKiln_17 : decode cX4_tryKiln 17 = .ok (.iconst 0, 1) := by decide +kernel
theorem dX4_tryKiln_18 : decode cX4_tryKiln 18 = .ok (.ireturn, 1) := by decide +kernel
theorem dX4_tryKiln_19 : decode cX4_tryKiln 19 = .ok (.aload_n 1, 1) := by decide +kernel
theorem dX4_tryKiln_20 : decode cX4_tryKiln 20 = .ok (.dup, 1) := by decide +kernel
theorem dX4_tryKiln_21 : decode cX4_tryKiln 21 = .ok (.getfield 91, 3) := by decide +kernel
theorem dX4_tryKiln_24 : decode cX4_tryKiln 24 = .ok (.iload 4, 2) := by decide +kernel
theorem dX4_tryKiln_26 : decode cX4_tryKiln 26 = .ok (.isub, 1) := by decide +kernel
theorem dX4_tryKiln_27 : decode cX4_tryKiln 27 = .ok (.putfield 91, 3) := by decide +kernel
theorem dX4_tryKiln_30 : decode cX4_tryKiln 30 = .ok (.bipush 20, 2) := by decide +kernel
theorem dX4_tryKiln_32 : decode cX4_tryKiln 32 = .ok (.aload_n 1, 1) := by decide +kernel
theorem dX4_tryKiln_33 : decode cX4_tryKiln 33 = .ok (.getfield 62, 3) := by decide +kernel
theorem dX4_tryKiln_36 : decode cX4_tryKiln 36 = .ok (.iload_n 2, 1) := by decide +kernel
theorem dX4_tryKiln_37 : decode cX4_tryKiln 37 = .ok (.iaload, 1) := by decide +kernel
theorem dX4_tryKiln_38 : decode cX4_tryKiln 38 = .ok (.iload_n 3, 1) := by decide +kernel
theorem dX4_tryKiln_39 : decode cX4_tryKiln 39 = .ok (.iadd, 1) := by decide +kernel
theorem dX4_tryKiln_40 : decode cX4_tryKiln 40 = .ok (.invokestatic 30, 3) := by decide +kernel
theorem dX4_tryKiln_43 : decode cX4_tryKiln 43 = .ok (.istore 5, 2) := by decide +kernel
theorem dX4_tryKiln_45 : decode cX4_tryKiln 45 = .ok (.aload_n 0, 1) := by decide +kernel
theorem dX4_tryKiln_46 : decode cX4_tryKiln 46 = .ok (.aload_n 1, 1) := by decide +kernel
theorem dX4_tryKiln_47 : decode cX4_tryKiln 47 = .ok (.iload_n 2, 1) := by decide +kernel
theorem dX4_tryKiln_48 : decode cX4_tryKiln 48 = .ok (.iload 5, 2) := by decide +kernel
theorem dX4_tryKiln_50 : decode cX4_tryKiln 50 = .ok (.invokevirtual 108, 3) := by decide +kernel
theorem dX4_tryKiln_53 : decode cX4_tryKiln 53 = .ok (.istore 6, 2) := by decide +kernel
theorem dX4_tryKiln_55 : decode cX4_tryKiln 55 = .ok (.aload_n 1, 1) := by decide +kernel
theorem dX4_tryKiln_56 : decode cX4_tryKiln 56 = .ok (.iload_n 2, 1) := by decide +kernel
theorem dX4_tryKiln_57 : decode cX4_tryKiln 57 = .ok (.iload 5, 2) := by decide +kernel
theorem dX4_tryKiln_59 : decode cX4_tryKiln 59 = .ok (.iload 6, 2) := by decide +kernel
theorem dX4_tryKiln_61 : decode cX4_tryKiln 61 = .ok (.invokevirtual 111, 3) := by decide +kernel
theorem dX4_tryKiln_64 : decode cX4_tryKiln 64 = .ok (.aload_n 1, 1) := by decide +kernel
theorem dX4_tryKiln_65 : decode cX4_tryKiln 65 = .ok (.getfield 62, 3) := by decide +kernel
theorem dX4_tryKiln_68 : decode cX4_tryKiln 68 = .ok (.iload_n 2, 1) := by decide +kernel
theorem dX4_tryKiln_69 : decode cX4_tryKiln 69 = .ok (.iconst (-1), 1) := by decide +kernel
theorem dX4_tryKiln_70 : decode cX4_tryKiln 70 = .ok (.iastore, 1) := by decide +kernel
theorem dX4_tryKiln_71 : decode cX4_tryKiln 71 = .ok (.iconst 1, 1) := by decide +kernel
theorem dX4_tryKiln_72 : decode cX4_tryKiln 72 = .ok (.ireturn, 1) := by decide +kernel
theorem dX4_fireAll_0 : decode cX4_fireAll 0 = .ok (.iconst 0, 1) := by decide +kernel
theorem dX4_fireAll_1 : decode cX4_fireAll 1 = .ok (.istore 4, 2) := by decide +kernel
theorem dX4_fireAll_3 : decode cX4_fireAll 3 = .ok (.iconst (-1), 1) := by decide +kernel
theorem dX4_fireAll_4 : decode cX4_fireAll 4 = .ok (.istore 5, 2) := by decide +kernel
theorem dX4_fireAll_6 : decode cX4_fireAll 6 = .ok (.iconst 0, 1) := by decide +kernel
theorem dX4_fireAll_7 : decode cX4_fireAll 7 = .ok (.istore 6, 2) := by decide +kernel
theorem dX4_fireAll_9 : decode cX4_fireAll 9 = .ok (.iload 6, 2) := by decide +kernel
theorem dX4_fireAll_11 : decode cX4_fireAll 11 = .ok (.aload_n 0, 1) := by decide +kernel
theorem dX4_fireAll_12 : decode cX4_fireAll 12 = .ok (.getfield 18, 3) := by decide +kernel
theorem dX4_fireAll_15 : decode cX4_fireAll 15 = .ok (.getfield 71, 3) := by decide +kernel
theorem dX4_fireAll_18 : decode cX4_fireAll 18 = .ok (.iload_n 2, 1) := by decide +kernel
theorem dX4_fireAll_19 : decode cX4_fireAll 19 = .ok (.iaload, 1) := by decide +kernel
theorem dX4_fireAll_20 : decode cX4_fireAll 20 = .ok (.if_icmp .ge 125, 3) := by decide +kernel
theorem dX4_fireAll_23 : decode cX4_fireAll 23 = .ok (.aload_n 1, 1) := by decide +kernel
theorem dX4_fireAll_24 : decode cX4_fireAll 24 = .ok (.iload_n 2, 1) := by decide +kernel
theorem dX4_fireAll_25 : decode cX4_fireAll 25 = .ok (.iload 6, 2) := by decide +kernel
theorem dX4_fireAll_27 : decode cX4_fireAll 27 = .ok (.invokevirtual 77, 3) := by decide +kernel
theorem dX4_fireAll_30 : decode cX4_fireAll 30 = .ok (.istore 7, 2) := by decide +kernel
theorem dX4_fireAll_32 : decode cX4_fireAll 32 = .ok (.iload 7, 2) := by decide +kernel
theorem dX4_fireAll_34 : decode cX4_fireAll 34 = .ok (.iconst (-1), 1) := by decide +kernel
theorem dX4_fireAll_35 : decode cX4_fireAll 35 = .ok (.if_icmp .eq 100, 3) := by decide +kernel
theorem dX4_fireAll_38 : decode cX4_fireAll 38 = .ok (.aload_n 0, 1) := by decide +kernel
theorem dX4_fireAll_39 : decode cX4_fireAll 39 = .ok (.iload 7, 2) := by decide +kernel
theorem dX4_fireAll_41 : decode cX4_fireAll 41 = .ok (.iload_n 3, 1) := by decide +kernel
theorem dX4_fireAll_42 : decode cX4_fireAll 42 = .ok (.iload 6, 2) := by decide +kernel
theorem dX4_fireAll_44 : decode cX4_fireAll 44 = .ok (.aload_n 1, 1) := by decide +kernel
theorem dX4_fireAll_45 : decode cX4_fireAll 45 = .ok (.getfield 67, 3) := by decide +kernel
theorem dX4_fireAll_48 : decode cX4_fireAll 48 = .ok (.invokevirtual 80, 3) := by decide +kernel
theorem dX4_fireAll_51 : decode cX4_fireAll 51 = .ok (.istore 8, 2) := by decide +kernel
theorem dX4_fireAll_53 : decode cX4_fireAll 53 = .ok (.aload_n 0, 1) := by decide +kernel
theorem dX4_fireAll_54 : decode cX4_fireAll 54 = .ok (.iload 7, 2) := by decide +kernel
theorem dX4_fireAll_56 : decode cX4_fireAll 56 = .ok (.iload_n 3, 1) := by decide +kernel
theorem dX4_fireAll_57 : decode cX4_fireAll 57 = .ok (.iload 6, 2) := by decide +kernel
theorem dX4_fireAll_59 : decode cX4_fireAll 59 = .ok (.aload_n 1, 1) := by decide +kernel
theorem dX4_fireAll_60 : decode cX4_fireAll 60 = .ok (.getfield 67, 3) := by decide +kernel
theorem dX4_fireAll_63 : decode cX4_fireAll 63 = .ok (.iload 8, 2) := by decide +kernel
theorem dX4_fireAll_65 : decode cX4_fireAll 65 = .ok (.invokevirtual 84, 3) := by decide +kernel
theorem dX4_fireAll_68 : decode cX4_fireAll 68 = .ok (.ifCond .eq 7, 3) := by decide +kernel
theorem dX4_fireAll_71 : decode cX4_fireAll 71 = .ok (.iconst 1, 1) := by decide +kernel
theorem dX4_fireAll_72 : decode cX4_fireAll 72 = .ok (.goto 4, 3) := by decide +kernel
theorem dX4_fireAll_75 : decode cX4_fireAll 75 = .ok (.iconst 0, 1) := by decide +kernel
theorem dX4_fireAll_76 : decode cX4_fireAll 76 = .ok (.istore 9, 2) := by decide +kernel
theorem dX4_fireAll_78 : decode cX4_fireAll 78 = .ok (.iload 4, 2) := by decide +kernel
theorem dX4_fireAll_80 : decode cX4_fireAll 80 = .ok (.iload 9, 2) := by decide +kernel
theorem dX4_fireAll_82 : decode cX4_fireAll 82 = .ok (.iadd, 1) := by decide +kernel
theorem dX4_fireAll_83 : decode cX4_fireAll 83 = .ok (.istore 4, 2) := by decide +kernel
theorem dX4_fireAll_85 : decode cX4_fireAll 85 = .ok (.aload_n 1, 1) := by decide +kernel
theorem dX4_fireAll_86 : decode cX4_fireAll 86 = .ok (.iload 7, 2) := by decide +kernel
theorem dX4_fireAll_88 : decode cX4_fireAll 88 = .ok (.iload 8, 2) := by decide +kernel
theorem dX4_fireAll_90 : decode cX4_fireAll 90 = .ok (.iload 9, 2) := by decide +kernel
theorem dX4_fireAll_92 : decode cX4_fireAll 92 = .ok (.invokevirtual 115, 3) := by decide +kernel
theorem dX4_fireAll_95 : decode cX4_fireAll 95 = .ok (.iload 5, 2) := by decide +kernel
theorem dX4_fireAll_97 : decode cX4_fireAll 97 = .ok (.iconst (-1), 1) := by decide +kernel
theorem dX4_fireAll_98 : decode cX4_fireAll 98 = .ok (.if_icmp .eq 37, 3) := by decide +kernel
theorem dX4_fireAll_101 : decode cX4_fireAll 101 = .ok (.aload_n 0, 1) := by decide +kernel
theorem dX4_fireAll_102 : decode cX4_fireAll 102 = .ok (.iload 5, 2) := by decide +kernel
theorem dX4_fireAll_104 : decode cX4_fireAll 104 = .ok (.iload 7, 2) := by decide +kernel
theorem dX4_fireAll_106 : decode cX4_fireAll 106 = .ok (.aload_n 1, 1) := by decide +kernel
theorem dX4_fireAll_107 : decode cX4_fireAll 107 = .ok (.getfield 118, 3) := by decide +kernel
theorem dX4_fireAll_110 : decode cX4_fireAll 110 = .ok (.iload 5, 2) := by decide +kernel
theorem dX4_fireAll_112 : decode cX4_fireAll 112 = .ok (.iaload, 1) := by decide +kernel
theorem dX4_fireAll_113 : decode cX4_fireAll 113 = .ok (.iload 8, 2) := by decide +kernel
theorem dX4_fireAll_115 : decode cX4_fireAll 115 = .ok (.isub, 1) := by decide +kernel
theorem dX4_fireAll_116 : decode cX4_fireAll 116 = .ok (.iload_n 3, 1) := by decide +kernel
theorem dX4_fireAll_117 : decode cX4_fireAll 117 = .ok (.aload_n 1, 1) := by decide +kernel
theorem dX4_fireAll_118 : decode cX4_fireAll 118 = .ok (.getfield 67, 3) := by decide +kernel
theorem dX4_fireAll_121 : decode cX4_fireAll 121 = .ok (.invokevirtual 88, 3) := by decide +kernel
theorem dX4_fireAll_124 : decode cX4_fireAll 124 = .ok (.ifCond .eq 11, 3) := by decide +kernel
theorem dX4_fireAll_127 : decode cX4_fireAll 127 = .ok (.aload_n 1, 1) := by decide +kernel
theorem dX4_fireAll_128 : decode cX4_fireAll 128 = .ok (.iload 5, 2) := by decide +kernel
theorem dX4_fireAll_130 : decode cX4_fireAll 130 = .ok (.iload 7, 2) := by decide +kernel
theorem dX4_fireAll_132 : decode cX4_fireAll 132 = .ok (.invokevirtual 121, 3) := by decide +kernel
theorem dX4_fireAll_135 : decode cX4_fireAll 135 = .ok (.iload 7, 2) := by decide +kernel
theorem dX4_fireAll_137 : decode cX4_fireAll 137 = .ok (.istore 5, 2) := by decide +kernel
theorem dX4_fireAll_139 : decode cX4_fireAll 139 = .ok (.iinc 6 1, 3) := by decide +kernel
theorem dX4_fireAll_142 : decode cX4_fireAll 142 = .ok (.goto (-133), 3) := by decide +kernel
theorem dX4_fireAll_145 : decode cX4_fireAll 145 = .ok (.iload 4, 2) := by decide +kernel
theorem dX4_fireAll_147 : decode cX4_fireAll 147 = .ok (.ireturn, 1) := by decide +kernel
theorem dX5_init_0 : decode cX5_init 0 = .ok (.aload_n 0, 1) := by decide +kernel
theorem dX5_init_1 : decode cX5_init 1 = .ok (.invokespecial 3, 3) := by decide +kernel
theorem dX5_init_4 : decode cX5_init 4 = .ok (.aload_n 0, 1) := by decide +kernel
theorem dX5_init_5 : decode cX5_init 5 = .ok (.bipush 26, 2) := by decide +kernel
theorem dX5_init_7 : decode cX5_init 7 = .ok (.newarray .int, 2) := by decide +kernel
theorem dX5_init_9 : decode cX5_init 9 = .ok (.putfield 11, 3) := by decide +kernel
theorem dX5_init_12 : decode cX5_init 12 = .ok (.aload_n 0, 1) := by decide +kernel
theorem dX5_init_13 : decode cX5_init 13 = .ok (.bipush 64, 2) := by decide +kernel
theorem dX5_init_15 : decode cX5_init 15 = .ok (.newarray .int, 2) := by decide +kernel
theorem dX5_init_17 : decode cX5_init 17 = .ok (.putfield 17, 3) := by decide +kernel
theorem dX5_init_20 : decode cX5_init 20 = .ok (.return_, 1) := by decide +kernel
theorem dX5_tell_0 : decode cX5_tell 0 = .ok (.iload_n 1, 1) := by decide +kernel
theorem dX5_tell_1 : decode cX5_tell 1 = .ok (.sipush 256, 3) := by decide +kernel
theorem dX5_tell_4 : decode cX5_tell 4 = .ok (.isub, 1) := by decide +kernel
theorem dX5_tell_5 : decode cX5_tell 5 = .ok (.istore_n 3, 1) := by decide +kernel
theorem dX5_tell_6 : decode cX5_tell 6 = .ok (.iload_n 3, 1) := by decide +kernel
theorem dX5_tell_7 : decode cX5_tell 7 = .ok (.ifCond .lt 19, 3) := by decide +kernel
theorem dX5_tell_10 : decode cX5_tell 10 = .ok (.iload_n 3, 1) := by decide +kernel
theorem dX5_tell_11 : decode cX5_tell 11 = .ok (.aload_n 0, 1) := by decide +kernel
theorem dX5_tell_12 : decode cX5_tell 12 = .ok (.getfield 11, 3) := by decide +kernel
theorem dX5_tell_15 : decode cX5_tell 15 = .ok (.arraylength, 1) := by decide +kernel
theorem dX5_tell_16 : decode cX5_tell 16 = .ok (.if_icmp .ge 10, 3) := by decide +kernel
theorem dX5_tell_19 : decode cX5_tell 19 = .ok (.aload_n 0, 1) := by decide +kernel
theorem dX5_tell_20 : decode cX5_tell 20 = .ok (.getfield 11, 3) := by decide +kernel
theorem dX5_tell_23 : decode cX5_tell 23 = .ok (.iload_n 3, 1) := by decide +kernel
theorem dX5_tell_24 : decode cX5_tell 24 = .ok (.iload_n 2, 1) := by decide +kernel
theorem dX5_tell_25 : decode cX5_tell 25 = .ok (.iastore, 1) := by decide +kernel
theorem dX5_tell_26 : decode cX5_tell 26 = .ok (.return_, 1) := by decide +kernel
theorem dX5_valueOf_0 : decode cX5_valueOf 0 = .ok (.iload_n 2, 1) := by decide +kernel
theorem dX5_valueOf_1 : decode cX5_valueOf 1 = .ok (.sipush 261, 3) := by decide +kernel
theorem dX5_valueOf_4 : decode cX5_valueOf 4 = .ok (.isub, 1) := by decide +kernel
theorem dX5_valueOf_5 : decode cX5_valueOf 5 = .ok (.istore_n 3, 1) := by decide +kernel
theorem dX5_valueOf_6 : decode cX5_valueOf 6 = .ok (.iload_n 3, 1) := by decide +kernel
theorem dX5_valueOf_7 : decode cX5_valueOf 7 = .ok (.ifCond .lt 8, 3) := by decide +kernel
theorem dX5_valueOf_10 : decode cX5_valueOf 10 = .ok (.iload_n 3, 1) := by decide +kernel
theorem dX5_valueOf_11 : decode cX5_valueOf 11 = .ok (.iconst 4, 1) := by decide +kernel
theorem dX5_valueOf_12 : decode cX5_valueOf 12 = .ok (.if_icmp .lt 5, 3) := by decide +kernel
theorem dX5_valueOf_15 : decode cX5_valueOf 15 = .ok (.iconst 0, 1) := by decide +kernel
theorem dX5_valueOf_16 : decode cX5_valueOf 16 = .ok (.ireturn, 1) := by decide +kernel
theorem dX5_valueOf_17 : decode cX5_valueOf 17 = .ok (.iconst 0, 1) := by decide +kernel
theorem dX5_valueOf_18 : decode cX5_valueOf 18 = .ok (.istore 4, 2) := by decide +kernel
theorem dX5_valueOf_20 : decode cX5_valueOf 20 = .ok (.aload_n 1, 1) := by decide +kernel
theorem dX5_valueOf_21 : decode cX5_valueOf 21 = .ok (.getfield 22, 3) := by decide +kernel
theorem dX5_valueOf_24 : decode cX5_valueOf 24 = .ok (.iload_n 3, 1) := by decide +kernel
theorem dX5_valueOf_25 : decode cX5_valueOf 25 = .ok (.iaload, 1) := by decide +kernel
theorem dX5_valueOf_26 : decode cX5_valueOf 26 = .ok (.istore 5, 2) := by decide +kernel
theorem dX5_valueOf_28 : decode cX5_valueOf 28 = .ok (.iload 5, 2) := by decide +kernel
theorem dX5_valueOf_30 : decode cX5_valueOf 30 = .ok (.aload_n 1, 1) := by decide +kernel
theorem dX5_valueOf_31 : decode cX5_valueOf 31 = .ok (.getfield 25, 3) := by decide +kernel
theorem dX5_valueOf_34 : decode cX5_valueOf 34 = .ok (.iload_n 3, 1) := by decide +kernel
theorem dX5_valueOf_35 : decode cX5_valueOf 35 = .ok (.iaload, 1) := by decide +kernel
theorem dX5_valueOf_36 : decode cX5_valueOf 36 = .ok (.if_icmp .ge 82, 3) := by decide +kernel
theorem dX5_valueOf_39 : decode cX5_valueOf 39 = .ok (.aload_n 1, 1) := by decide +kernel
theorem dX5_valueOf_40 : decode cX5_valueOf 40 = .ok (.getfield 28, 3) := by decide +kernel
theorem dX5_valueOf_43 : decode cX5_valueOf 43 = .ok (.iload 5, 2) := by decide +kernel
theorem dX5_valueOf_45 : decode cX5_valueOf 45 = .ok (.iaload, 1) := by decide +kernel
theorem dX5_valueOf_46 : decode cX5_valueOf 46 = .ok (.istore 6, 2) := by decide +kernel
theorem dX5_valueOf_48 : decode cX5_valueOf 48 = .ok (.iload 4, 2) := by decide +kernel
theorem dX5_valueOf_50 : decode cX5_valueOf 50 = .ok (.iload 6, 2) := by decide +kernel
theorem dX5_valueOf_52 : decode cX5_valueOf 52 = .ok (.invokestatic 31, 3) := by decide +kernel
theorem dX5_valueOf_55 : decode cX5_valueOf 55 = .ok (.isub, 1) := by decide +kernel
theorem dX5_valueOf_56 : decode cX5_valueOf 56 = .ok (.istore 7, 2) := by decide +kernel
theorem dX5_valueOf_58 : decode cX5_valueOf 58 = .ok (.iload 7, 2) := by decide +kernel
theorem dX5_valueOf_60 : decode cX5_valueOf 60 = .ok (.ifCond .lt 12, 3) := by decide +kernel
theorem dX5_valueOf_63 : decode cX5_valueOf 63 = .ok (.iload 7, 2) := by decide +kernel
theorem dX5_valueOf_65 : decode cX5_valueOf 65 = .ok (.iconst 2, 1) := by decide +kernel
theorem dX5_valueOf_66 : decode cX5_valueOf 66 = .ok (.iadd, 1) := by decide +kernel
theorem dX5_valueOf_67 : decode cX5_valueOf 67 = .ok (.bipush 64, 2) := by decide +kernel
theorem dX5_valueOf_69 : decode cX5_valueOf 69 = .ok (.if_icmp .lt 5, 3) := by decide +kernel
theorem dX5_valueOf_72 : decode cX5_valueOf 72 = .ok (.iconst 0, 1) := by decide +kernel
theorem dX5_valueOf_73 : decode cX5_valueOf 73 = .ok (.ireturn, 1) := by decide +kernel
theorem dX5_valueOf_74 : decode cX5_valueOf 74 = .ok (.aload_n 0, 1) := by decide +kernel
theorem dX5_valueOf_75 : decode cX5_valueOf 75 = .ok (.iload 6, 2) := by decide +kernel
theorem dX5_valueOf_77 : decode cX5_valueOf 77 = .ok (.iload 7, 2) := by decide +kernel
theorem dX5_valueOf_79 : decode cX5_valueOf 79 = .ok (.invokevirtual 35, 3) := by decide +kernel
theorem dX5_valueOf_82 : decode cX5_valueOf 82 = .ok (.lstore 8, 2) := by decide +kernel
theorem dX5_valueOf_84 : decode cX5_valueOf 84 = .ok (.aload_n 0, 1) := by decide +kernel
theorem dX5_valueOf_85 : decode cX5_valueOf 85 = .ok (.getfield 17, 3) := by decide +kernel
theorem dX5_valueOf_88 : decode cX5_valueOf 88 = .ok (.iload 7, 2) := by decide +kernel
theorem dX5_valueOf_90 : decode cX5_valueOf 90 = .ok (.ldc2_w 39, 3) := by decide +kernel
theorem dX5_valueOf_93 : decode cX5_valueOf 93 = .ok (.ldc2_w 41, 3) := by decide +kernel
theorem dX5_valueOf_96 : decode cX5_valueOf 96 = .ok (.lload 8, 2) := by decide +kernel
theorem dX5_valueOf_98 : decode cX5_valueOf 98 = .ok (.invokestatic 43, 3) := by decide +kernel
theorem dX5_valueOf_101 : decode cX5_valueOf 101 = .ok (.invokestatic 49, 3) := by decide +kernel
theorem dX5_valueOf_104 : decode cX5_valueOf 104 = .ok (.l2i, 1) := by decide +kernel
theorem dX5_valueOf_105 : decode cX5_valueOf 105 = .ok (.iastore, 1) := by decide +kernel
theorem dX5_valueOf_106 : decode cX5_valueOf 106 = .ok (.iload 7, 2) := by decide +kernel
theorem dX5_valueOf_108 : decode cX5_valueOf 108 = .ok (.iconst 1, 1) := by decide +kernel
theorem dX5_valueOf_109 : decode cX5_valueOf 109 = .ok (.iadd, 1) := by decide +kernel
theorem dX5_valueOf_110 : decode cX5_valueOf 110 = .ok (.istore 4, 2) := by decide +kernel
theorem dX5_valueOf_112 : decode cX5_valueOf 112 = .ok (.iinc 5 1, 3) := by decide +kernel
theorem dX5_valueOf_115 : decode cX5_valueOf 115 = .ok (.goto (-87), 3) := by decide +kernel
theorem dX5_valueOf_118 : decode cX5_valueOf 118 = .ok (.aload_n 0, 1) := by decide +kernel
theorem dX5_valueOf_119 : decode cX5_valueOf 119 = .ok (.getfield 17, 3) := by decide +kernel
theorem dX5_valueOf_122 : decode cX5_valueOf 122 = .ok (.iconst 0, 1) := by decide +kernel
theorem dX5_valueOf_123 : decode cX5_valueOf 123 = .ok (.iaload, 1) := by decide +kernel
theorem dX5_valueOf_124 : decode cX5_valueOf 124 = .ok (.ireturn, 1) := by decide +kernel
theorem dX5_operandsOf_0 : decode cX5_operandsOf 0 = .ok (.iload_n 0, 1) := by decide +kernel
theorem dX5_operandsOf_1 : decode cX5_operandsOf 1 = .ok (.sipush 1000, 3) := by decide +kernel
theorem dX5_operandsOf_4 : decode cX5_operandsOf 4 = .ok (.if_icmp .lt 5, 3) := by decide +kernel
theorem dX5_operandsOf_7 : decode cX5_operandsOf 7 = .ok (.iconst 0, 1) := by decide +kernel
theorem dX5_operandsOf_8 : decode cX5_operandsOf 8 = .ok (.ireturn, 1) := by decide +kernel
theorem dX5_operandsOf_9 : decode cX5_operandsOf 9 = .ok (.iload_n 0, 1) := by decide +kernel
theorem dX5_operandsOf_10 : decode cX5_operandsOf 10 = .ok (.tableswitch 54 275 281 #[42, 46, 48, 44, 54, 50, 52], 42) := by decide +kernel
theorem dX5_operandsOf_52 : decode cX5_operandsOf 52 = .ok (.iconst 3, 1) := by decide +kernel
theorem dX5_operandsOf_53 : decode cX5_operandsOf 53 = .ok (.ireturn, 1) := by decide +kernel
theorem dX5_operandsOf_54 : decode cX5_operandsOf 54 = .ok (.iconst 1, 1) := by decide +kernel
theorem dX5_operandsOf_55 : decode cX5_operandsOf 55 = .ok (.ireturn, 1) := by decide +kernel
theorem dX5_operandsOf_56 : decode cX5_operandsOf 56 = .ok (.iconst 2, 1) := by decide +kernel
theorem dX5_operandsOf_57 : decode cX5_operandsOf 57 = .ok (.ireturn, 1) := by decide +kernel
theorem dX5_operandsOf_58 : decode cX5_operandsOf 58 = .ok (.iconst 2, 1) := by decide +kernel
theorem dX5_operandsOf_59 : decode cX5_operandsOf 59 = .ok (.ireturn, 1) := by decide +kernel
theorem dX5_operandsOf_60 : decode cX5_operandsOf 60 = .ok (.iconst 2, 1) := by decide +kernel
theorem dX5_operandsOf_61 : decode cX5_operandsOf 61 = .ok (.ireturn, 1) := by decide +kernel
theorem dX5_operandsOf_62 : decode cX5_operandsOf 62 = .ok (.iconst 2, 1) := by decide +kernel
theorem dX5_operandsOf_63 : decode cX5_operandsOf 63 = .ok (.ireturn, 1) := by decide +kernel
theorem dX5_operandsOf_64 : decode cX5_operandsOf 64 = .ok (.iload_n 0, 1) := by decide +kernel
theorem dX5_operandsOf_65 : decode cX5_operandsOf 65 = .ok (.sipush 256, 3) := by decide +kernel
theorem dX5_operandsOf_68 : decode cX5_operandsOf 68 = .ok (.if_icmp .ge 7, 3) := by decide +kernel
theorem dX5_operandsOf_71 : decode cX5_operandsOf 71 = .ok (.iconst 2, 1) := by decide +kernel
theorem dX5_operandsOf_72 : decode cX5_operandsOf 72 = .ok (.goto 4, 3) := by decide +kernel
theorem dX5_operandsOf_75 : decode cX5_operandsOf 75 = .ok (.iconst 0, 1) := by decide +kernel
theorem dX5_operandsOf_76 : decode cX5_operandsOf 76 = .ok (.ireturn, 1) := by decide +kernel
theorem dX5_resultOf_0 : decode cX5_resultOf 0 = .ok (.iload_n 1, 1) := by decide +kernel
theorem dX5_resultOf_1 : decode cX5_resultOf 1 = .ok (.sipush 1000, 3) := by decide +kernel
theorem dX5_resultOf_4 : decode cX5_resultOf 4 = .ok (.if_icmp .lt 10, 3) := by decide +kernel
theorem dX5_resultOf_7 : decode cX5_resultOf 7 = .ok (.iload_n 1, 1) := by decide +kernel
theorem dX5_resultOf_8 : decode cX5_resultOf 8 = .ok (.sipush 1000, 3) := by decide +kernel
theorem dX5_resultOf_11 : decode cX5_resultOf 11 = .ok (.isub, 1) := by decide +kernel
theorem dX5_resultOf_12 : decode cX5_resultOf 12 = .ok (.i2l, 1) := by decide +kernel
theorem dX5_resultOf_13 : decode cX5_resultOf 13 = .ok (.lreturn, 1) := by decide +kernel
theorem dX5_resultOf_14 : decode cX5_resultOf 14 = .ok (.aload_n 0, 1) := by decide +kernel
theorem dX5_resultOf_15 : decode cX5_resultOf 15 = .ok (.getfield 17, 3) := by decide +kernel
theorem dX5_resultOf_18 : decode cX5_resultOf 18 = .ok (.iload_n 2, 1) := by decide +kernel
theorem dX5_resultOf_19 : decode cX5_resultOf 19 = .ok (.iaload, 1) := by decide +kernel
theorem dX5_resultOf_20 : decode cX5_resultOf 20 = .ok (.istore_n 3, 1) := by decide +kernel
theorem dX5_resultOf_21 : decode cX5_resultOf 21 = .ok (.aload_n 0, 1) := by decide +kernel
theorem dX5_resultOf_22 : decode cX5_resultOf 22 = .ok (.getfield 17, 3) := by decide +kernel
theorem dX5_resultOf_25 : decode cX5_resultOf 25 = .ok (.iload_n 2, 1) := by decide +kernel
theorem dX5_resultOf_26 : decode cX5_resultOf 26 = .ok (.iconst 1, 1) := by decide +kernel
theorem dX5_resultOf_27 : decode cX5_resultOf 27 = .ok (.iadd, 1) := by decide +kernel
theorem dX5_resultOf_28 : decode cX5_resultOf 28 = .ok (.iaload, 1) := by decide +kernel
theorem dX5_resultOf_29 : decode cX5_resultOf 29 = .ok (.istore 4, 2) := by decide +kernel
theorem dX5_resultOf_31 : decode cX5_resultOf 31 = .ok (.iload_n 1, 1) := by decide +kernel
theorem dX5_resultOf_32 : decode cX5_resultOf 32 = .ok (.sipush 256, 3) := by decide +kernel
theorem dX5_resultOf_35 : decode cX5_resultOf 35 = .ok (.isub, 1) := by decide +kernel
theorem dX5_resultOf_36 : decode cX5_resultOf 36 = .ok (.istore 5, 2) := by decide +kernel
theorem dX5_resultOf_38 : decode cX5_resultOf 38 = .ok (.iload_n 1, 1) := by decide +kernel
theorem dX5_resultOf_39 : decode cX5_resultOf 39 = .ok (.lookupswitch 273 #[(37, 165), (42, 141), (43, 129), (45, 135), (47, 148), (60, 182), (61, 206), (62, 194), (275, 234), (276, 254), (277, 260), (278, 266), (279, 271), (280, 218), (281, 226)], 129) := by decide +kernel
theorem dX5_resultOf_168 : decode cX5_resultOf 168 = .ok (.iload_n 3, 1) := by decide +kernel
theorem dX5_resultOf_169 : decode cX5_resultOf 169 = .ok (.iload 4, 2) := by decide +kernel
theorem dX5_resultOf_171 : decode cX5_resultOf 171 = .ok (.iadd, 1) := by decide +kernel
theorem dX5_resultOf_172 : decode cX5_resultOf 172 = .ok (.i2l, 1) := by decide +kernel
theorem dX5_resultOf_173 : decode cX5_resultOf 173 = .ok (.lreturn, 1) := by decide +kernel
theorem dX5_resultOf_174 : decode cX5_resultOf 174 = .ok (.iload_n 3, 1) := by decide +kernel
theorem dX5_resultOf_175 : decode cX5_resultOf 175 = .ok (.iload 4, 2) := by decide +kernel
theorem dX5_resultOf_177 : decode cX5_resultOf 177 = .ok (.isub, 1) := by decide +kernel
theorem dX5_resultOf_178 : decode cX5_resultOf 178 = .ok (.i2l, 1) := by decide +kernel
theorem dX5_resultOf_179 : decode cX5_resultOf 179 = .ok (.lreturn, 1) := by decide +kernel
theorem dX5_resultOf_180 : decode cX5_resultOf 180 = .ok (.iload_n 3, 1) := by decide +kernel
theorem dX5_resultOf_181 : decode cX5_resultOf 181 = .ok (.i2l, 1) := by decide +kernel
theorem dX5_resultOf_182 : decode cX5_resultOf 182 = .ok (.iload 4, 2) := by decide +kernel
theorem dX5_resultOf_184 : decode cX5_resultOf 184 = .ok (.i2l, 1) := by decide +kernel
theorem dX5_resultOf_185 : decode cX5_resultOf 185 = .ok (.lmul, 1) := by decide +kernel
theorem dX5_resultOf_186 : decode cX5_resultOf 186 = .ok (.lreturn, 1) := by decide +kernel
theorem dX5_resultOf_187 : decode cX5_resultOf 187 = .ok (.iload 4, 2) := by decide +kernel
theorem dX5_resultOf_189 : decode cX5_resultOf 189 = .ok (.ifCond .ne 7, 3) := by decide +kernel
theorem dX5_resultOf_192 : decode cX5_resultOf 192 = .ok (.lconst 0, 1) := by decide +kernel
theorem dX5_resultOf_193 : decode cX5_resultOf 193 = .ok (.goto 10, 3) := by decide +kernel
theorem dX5_resultOf_196 : decode cX5_resultOf 196 = .ok (.iload_n 3, 1) := by decide +kernel
theorem dX5_resultOf_197 : decode cX5_resultOf 197 = .ok (.iload 4, 2) := by decide +kernel
theorem dX5_resultOf_199 : decode cX5_resultOf 199 = .ok (.invokestatic 52, 3) := by decide +kernel
theorem dX5_resultOf_202 : decode cX5_resultOf 202 = .ok (.i2l, 1) := by decide +kernel
theorem dX5_resultOf_203 : decode cX5_resultOf 203 = .ok (.lreturn, 1) := by decide +kernel
theorem dX5_resultOf_204 : decode cX5_resultOf 204 = .ok (.iload 4, 2) := by decide +kernel
theorem dX5_resultOf_206 : decode cX5_resultOf 206 = .ok (.ifCond .ne 7, 3) := by decide +kernel
theorem dX5_resultOf_209 : decode cX5_resultOf 209 = .ok (.lconst 0, 1) := by decide +kernel
theorem dX5_resultOf_210 : decode cX5_resultOf 210 = .ok (.goto 10, 3) := by decide +kernel
theorem dX5_resultOf_213 : decode cX5_resultOf 213 = .ok (.iload_n 3, 1) := by decide +kernel
theorem dX5_resultOf_214 : decode cX5_resultOf 214 = .ok (.iload 4, 2) := by decide +kernel
theorem dX5_resultOf_216 : decode cX5_resultOf 216 = .ok (.invokestatic 56, 3) := by decide +kernel
theorem dX5_resultOf_219 : decode cX5_resultOf 219 = .ok (.i2l, 1) := by decide +kernel
theorem dX5_resultOf_220 : decode cX5_resultOf 220 = .ok (.lreturn, 1) := by decide +kernel
theorem dX5_resultOf_221 : decode cX5_resultOf 221 = .ok (.iload_n 3, 1) := by decide +kernel
theorem dX5_resultOf_222 : decode cX5_resultOf 222 = .ok (.iload 4, 2) := by decide +kernel
theorem dX5_resultOf_224 : decode cX5_resultOf 224 = .ok (.if_icmp .ge 7, 3) := by decide +kernel
theorem dX5_resultOf_227 : decode cX5_resultOf 227 = .ok (.lconst 1, 1) := by decide +kernel
theorem dX5_resultOf_228 : decode cX5_resultOf 228 = .ok (.goto 4, 3) := by decide +kernel
theorem dX5_resultOf_231 : decode cX5_resultOf 231 = .ok (.lconst 0, 1) := by decide +kernel
theorem dX5_resultOf_232 : decode cX5_resultOf 232 = .ok (.lreturn, 1) := by decide +kernel
theorem dX5_resultOf_233 : decode cX5_resultOf 233 = .ok (.iload_n 3, 1) := by decide +kernel
theorem dX5_resultOf_234 : decode cX5_resultOf 234 = .ok (.iload 4, 2) := by decide +kernel
theorem dX5_resultOf_236 : decode cX5_resultOf 236 = .ok (.if_icmp .le 7, 3) := by decide +kernel
theorem dX5_resultOf_239 : decode cX5_resultOf 239 = .ok (.lconst 1, 1) := by decide +kernel
theorem dX5_resultOf_240 : decode cX5_resultOf 240 = .ok (.goto 4, 3) := by decide +kernel
theorem dX5_resultOf_243 : decode cX5_resultOf 243 = .ok (.lconst 0, 1) := by decide +kernel
theorem dX5_resultOf_244 : decode cX5_resultOf 244 = .ok (.lreturn, 1) := by decide +kernel
theorem dX5_resultOf_245 : decode cX5_resultOf 245 = .ok (.iload_n 3, 1) := by decide +kernel
theorem dX5_resultOf_246 : decode cX5_resultOf 246 = .ok (.iload 4, 2) := by decide +kernel
theorem dX5_resultOf_248 : decode cX5_resultOf 248 = .ok (.if_icmp .ne 7, 3) := by decide +kernel
theorem dX5_resultOf_251 : decode cX5_resultOf 251 = .ok (.lconst 1, 1) := by decide +kernel
theorem dX5_resultOf_252 : decode cX5_resultOf 252 = .ok (.goto 4, 3) := by decide +kernel
theorem dX5_resultOf_255 : decode cX5_resultOf 255 = .ok (.lconst 0, 1) := by decide +kernel
theorem dX5_resultOf_256 : decode cX5_resultOf 256 = .ok (.lreturn, 1) := by decide +kernel
theorem dX5_resultOf_257 : decode cX5_resultOf 257 = .ok (.iload_n 3, 1) := by decide +kernel
theorem dX5_resultOf_258 : decode cX5_resultOf 258 = .ok (.iload 4, 2) := by decide +kernel
theorem dX5_resultOf_260 : decode cX5_resultOf 260 = .ok (.invokestatic 59, 3) := by decide +kernel
theorem dX5_resultOf_263 : decode cX5_resultOf 263 = .ok (.i2l, 1) := by decide +kernel
theorem dX5_resultOf_264 : decode cX5_resultOf 264 = .ok (.lreturn, 1) := by decide +kernel
theorem dX5_resultOf_265 : decode cX5_resultOf 265 = .ok (.iload_n 3, 1) := by decide +kernel
theorem dX5_resultOf_266 : decode cX5_resultOf 266 = .ok (.iload 4, 2) := by decide +kernel
theorem dX5_resultOf_268 : decode cX5_resultOf 268 = .ok (.invokestatic 61, 3) := by decide +kernel
theorem dX5_resultOf_271 : decode cX5_resultOf 271 = .ok (.i2l, 1) := by decide +kernel
theorem dX5_resultOf_272 : decode cX5_resultOf 272 = .ok (.lreturn, 1) := by decide +kernel
theorem dX5_resultOf_273 : decode cX5_resultOf 273 = .ok (.iload_n 3, 1) := by decide +kernel
theorem dX5_resultOf_274 : decode cX5_resultOf 274 = .ok (.ifCond .eq 9, 3) := by decide +kernel
theorem dX5_resultOf_277 : decode cX5_resultOf 277 = .ok (.iload 4, 2) := by decide +kernel
theorem dX5_resultOf_279 : decode cX5_resultOf 279 = .ok (.i2l, 1) := by decide +kernel
theorem dX5_resultOf_280 : decode cX5_resultOf 280 = .ok (.goto 12, 3) := by decide +kernel
theorem dX5_resultOf_283 : decode cX5_resultOf 283 = .ok (.aload_n 0, 1) := by decide +kernel
theorem dX5_resultOf_284 : decode cX5_resultOf 284 = .ok (.getfield 17, 3) := by decide +kernel
theorem dX5_resultOf_287 : decode cX5_resultOf 287 = .ok (.iload_n 2, 1) := by decide +kernel
theorem dX5_resultOf_288 : decode cX5_resultOf 288 = .ok (.iconst 2, 1) := by decide +kernel
theorem dX5_resultOf_289 : decode cX5_resultOf 289 = .ok (.iadd, 1) := by decide +kernel
theorem dX5_resultOf_290 : decode cX5_resultOf 290 = .ok (.iaload, 1) := by decide +kernel
theorem dX5_resultOf_291 : decode cX5_resultOf 291 = .ok (.i2l, 1) := by decide +kernel
theorem dX5_resultOf_292 : decode cX5_resultOf 292 = .ok (.lreturn, 1) := by decide +kernel
theorem dX5_resultOf_293 : decode cX5_resultOf 293 = .ok (.iload_n 3, 1) := by decide +kernel
theorem dX5_resultOf_294 : decode cX5_resultOf 294 = .ok (.iload 4, 2) := by decide +kernel
theorem dX5_resultOf_296 : decode cX5_resultOf 296 = .ok (.ior, 1) := by decide +kernel
theorem dX5_resultOf_297 : decode cX5_resultOf 297 = .ok (.i2l, 1) := by decide +kernel
theorem dX5_resultOf_298 : decode cX5_resultOf 298 = .ok (.lreturn, 1) := by decide +kernel
theorem dX5_resultOf_299 : decode cX5_resultOf 299 = .ok (.iload_n 3, 1) := by decide +kernel
theorem dX5_resultOf_300 : decode cX5_resultOf 300 = .ok (.iload 4, 2) := by decide +kernel
theorem dX5_resultOf_302 : decode cX5_resultOf 302 = .ok (.iand, 1) := by decide +kernel
theorem dX5_resultOf_303 : decode cX5_resultOf 303 = .ok (.i2l, 1) := by decide +kernel
theorem dX5_resultOf_304 : decode cX5_resultOf 304 = .ok (.lreturn, 1) := by decide +kernel
theorem dX5_resultOf_305 : decode cX5_resultOf 305 = .ok (.iconst 1, 1) := by decide +kernel
theorem dX5_resultOf_306 : decode cX5_resultOf 306 = .ok (.iload_n 3, 1) := by decide +kernel
theorem dX5_resultOf_307 : decode cX5_resultOf 307 = .ok (.isub, 1) := by decide +kernel
theorem dX5_resultOf_308 : decode cX5_resultOf 308 = .ok (.i2l, 1) := by decide +kernel
theorem dX5_resultOf_309 : decode cX5_resultOf 309 = .ok (.lreturn, 1) := by decide +kernel
theorem dX5_resultOf_310 : decode cX5_resultOf 310 = .ok (.lconst 1, 1) := by decide +kernel
theorem dX5_resultOf_311 : decode cX5_resultOf 311 = .ok (.lreturn, 1) := by decide +kernel
theorem dX5_resultOf_312 : decode cX5_resultOf 312 = .ok (.iload 5, 2) := by decide +kernel
theorem dX5_resultOf_314 : decode cX5_resultOf 314 = .ok (.ifCond .lt 24, 3) := by decide +kernel
theorem dX5_resultOf_317 : decode cX5_resultOf 317 = .ok (.iload 5, 2) := by decide +kernel
theorem dX5_resultOf_319 : decode cX5_resultOf 319 = .ok (.aload_n 0, 1) := by decide +kernel
theorem dX5_resultOf_320 : decode cX5_resultOf 320 = .ok (.getfield 11, 3) := by decide +kernel
theorem dX5_resultOf_323 : decode cX5_resultOf 323 = .ok (.arraylength, 1) := by decide +kernel
theorem dX5_resultOf_324 : decode cX5_resultOf 324 = .ok (.if_icmp .ge 14, 3) := by decide +kernel
theorem dX5_resultOf_327 : decode cX5_resultOf 327 = .ok (.aload_n 0, 1) := by decide +kernel
theorem dX5_resultOf_328 : decode cX5_resultOf 328 = .ok (.getfield 11, 3) := by decide +kernel
theorem dX5_resultOf_331 : decode cX5_resultOf 331 = .ok (.iload 5, 2) := by decide +kernel
theorem dX5_resultOf_333 : decode cX5_resultOf 333 = .ok (.iaload, 1) := by decide +kernel
theorem dX5_resultOf_334 : decode cX5_resultOf 334 = .ok (.i2l, 1) := by decide +kernel
theorem dX5_resultOf_335 : decode cX5_resultOf 335 = .ok (.goto 4, 3) := by decide +kernel
theorem dX5_resultOf_338 : decode cX5_resultOf 338 = .ok (.lconst 0, 1) := by decide +kernel
theorem dX5_resultOf_339 : decode cX5_resultOf 339 = .ok (.lreturn, 1) := by decide +kernel
theorem dX6_init_0 : decode cX6_init 0 = .ok (.aload_n 0, 1) := by decide +kernel
theorem dX6_init_1 : decode cX6_init 1 = .ok (.invokespecial 3, 3) := by decide +kernel
theorem dX6_init_4 : decode cX6_init 4 = .ok (.aload_n 0, 1) := by decide +kernel
theorem dX6_init_5 : decode cX6_init 5 = .ok (.new 9, 3) := by decide +kernel
theorem dX6_init_8 : decode cX6_init 8 = .ok (.dup, 1) := by decide +kernel
theorem dX6_init_9 : decode cX6_init 9 = .ok (.invokespecial 11, 3) := by decide +kernel
theorem dX6_init_12 : decode cX6_init 12 = .ok (.putfield 12, 3) := by decide +kernel
theorem dX6_init_15 : decode cX6_init 15 = .ok (.aload_n 0, 1) := by decide +kernel
theorem dX6_init_16 : decode cX6_init 16 = .ok (.iconst 0, 1) := by decide +kernel
theorem dX6_init_17 : decode cX6_init 17 = .ok (.putfield 18, 3) := by decide +kernel
theorem dX6_init_20 : decode cX6_init 20 = .ok (.aload_n 0, 1) := by decide +kernel
theorem dX6_init_21 : decode cX6_init 21 = .ok (.iconst 0, 1) := by decide +kernel
theorem dX6_init_22 : decode cX6_init 22 = .ok (.putfield 22, 3) := by decide +kernel
theorem dX6_init_25 : decode cX6_init 25 = .ok (.aload_n 0, 1) := by decide +kernel
theorem dX6_init_26 : decode cX6_init 26 = .ok (.aload_n 1, 1) := by decide +kernel
theorem dX6_init_27 : decode cX6_init 27 = .ok (.putfield 25, 3) := by decide +kernel
theorem dX6_init_30 : decode cX6_init 30 = .ok (.return_, 1) := by decide +kernel
theorem dX6_parse_0 : decode cX6_parse 0 = .ok (.aload_n 0, 1) := by decide +kernel
theorem dX6_parse_1 : decode cX6_parse 1 = .ok (.aload_n 3, 1) := by decide +kernel
theorem dX6_parse_2 : decode cX6_parse 2 = .ok (.putfield 25, 3) := by decide +kernel
theorem dX6_parse_5 : decode cX6_parse 5 = .ok (.aload_n 0, 1) := by decide +kernel
theorem dX6_parse_6 : decode cX6_parse 6 = .ok (.getfield 25, 3) := by decide +kernel
theorem dX6_parse_9 : decode cX6_parse 9 = .ok (.invokevirtual 29, 3) := by decide +kernel
theorem dX6_parse_12 : decode cX6_parse 12 = .ok (.aload_n 0, 1) := by decide +kernel
theorem dX6_parse_13 : decode cX6_parse 13 = .ok (.iconst 0, 1) := by decide +kernel
theorem dX6_parse_14 : decode cX6_parse 14 = .ok (.putfield 22, 3) := by decide +kernel
theorem dX6_parse_17 : decode cX6_parse 17 = .ok (.aload_n 0, 1) := by decide +kernel
theorem dX6_parse_18 : decode cX6_parse 18 = .ok (.getfield 12, 3) := by decide +kernel
theorem dX6_parse_21 : decode cX6_parse 21 = .ok (.aload_n 1, 1) := by decide +kernel
theorem dX6_parse_22 : decode cX6_parse 22 = .ok (.iload_n 2, 1) := by decide +kernel
theorem dX6_parse_23 : decode cX6_parse 23 = .ok (.invokevirtual 34, 3) := by decide +kernel
theorem dX6_parse_26 : decode cX6_parse 26 = .ok (.iconst 0, 1) := by decide +kernel
theorem dX6_parse_27 : decode cX6_parse 27 = .ok (.istore 4, 2) := by decide +kernel
theorem dX6_parse_29 : decode cX6_parse 29 = .ok (.iload 4, 2) := by decide +kernel
theorem dX6_parse_31 : decode cX6_parse 31 = .ok (.bipush 80, 2) := by decide +kernel
theorem dX6_parse_33 : decode cX6_parse 33 = .ok (.if_icmp .ge 36, 3) := by decide +kernel
theorem dX6_parse_36 : decode cX6_parse 36 = .ok (.aload_n 0, 1) := by decide +kernel
theorem dX6_parse_37 : decode cX6_parse 37 = .ok (.getfield 12, 3) := by decide +kernel
theorem dX6_parse_40 : decode cX6_parse 40 = .ok (.getfield 38, 3) := by decide +kernel
theorem dX6_parse_43 : decode cX6_parse 43 = .ok (.sipush 284, 3) := by decide +kernel
theorem dX6_parse_46 : decode cX6_parse 46 = .ok (.if_icmp .eq 23, 3) := by decide +kernel
theorem dX6_parse_49 : decode cX6_parse 49 = .ok (.aload_n 0, 1) := by decide +kernel
theorem dX6_parse_50 : decode cX6_parse 50 = .ok (.getfield 12, 3) := by decide +kernel
theorem dX6_parse_53 : decode cX6_parse 53 = .ok (.getfield 43, 3) := by decide +kernel
theorem dX6_parse_56 : decode cX6_parse 56 = .ok (.ifCond .ne 13, 3) := by decide +kernel
theorem dX6_parse_59 : decode cX6_parse 59 = .ok (.aload_n 0, 1) := by decide +kernel
theorem dX6_parse_60 : decode cX6_parse 60 = .ok (.invokevirtual 46, 3) := by decide +kernel
theorem dX6_parse_63 : decode cX6_parse 63 = .ok (.iinc 4 1, 3) := by decide +kernel
theorem dX6_parse_66 : decode cX6_parse 66 = .ok (.goto (-37), 3) := by decide +kernel
theorem dX6_parse_69 : decode cX6_parse 69 = .ok (.aload_n 0, 1) := by decide +kernel
theorem dX6_parse_70 : decode cX6_parse 70 = .ok (.getfield 12, 3) := by decide +kernel
theorem dX6_parse_73 : decode cX6_parse 73 = .ok (.getfield 43, 3) := by decide +kernel
theorem dX6_parse_76 : decode cX6_parse 76 = .ok (.ifCond .ne 7, 3) := by decide +kernel
theorem dX6_parse_79 : decode cX6_parse 79 = .ok (.iconst 1, 1) := by decide +kernel
theorem dX6_parse_80 : decode cX6_parse 80 = .ok (.goto 4, 3) := by decide +kernel
theorem dX6_parse_83 : decode cX6_parse 83 = .ok (.iconst 0, 1) := by decide +kernel
theorem dX6_parse_84 : decode cX6_parse 84 = .ok (.ireturn, 1) := by decide +kernel
theorem dX6_faultKind_0 : decode cX6_faultKind 0 = .ok (.aload_n 0, 1) := by decide +kernel
theorem dX6_faultKind_1 : decode cX6_faultKind 1 = .ok (.getfield 12, 3) := by decide +kernel
theorem dX6_faultKind_4 : decode cX6_faultKind 4 = .ok (.getfield 43, 3) := by decide +kernel
theorem dX6_faultKind_7 : decode cX6_faultKind 7 = .ok (.ireturn, 1) := by decide +kernel
theorem dX6_faultPlace_0 : decode cX6_faultPlace 0 = .ok (.aload_n 0, 1) := by decide +kernel
theorem dX6_faultPlace_1 : decode cX6_faultPlace 1 = .ok (.getfield 12, 3) := by decide +kernel
theorem dX6_faultPlace_4 : decode cX6_faultPlace 4 = .ok (.getfield 49, 3) := by decide +kernel
theorem dX6_faultPlace_7 : decode cX6_faultPlace 7 = .ok (.ireturn, 1) := by decide +kernel
theorem dX6_beginsStatement_0 : decode cX6_beginsStatement 0 = .ok (.iload_n 0, 1) := by decide +kernel
theorem dX6_beginsStatement_1 : decode cX6_beginsStatement 1 = .ok (.sipush 256, 3) := by decide +kernel
theorem dX6_beginsStatement_4 : decode cX6_beginsStatement 4 = .ok (.if_icmp .eq 10, 3) := by decide +kernel
theorem dX6_beginsStatement_7 : decode cX6_beginsStatement 7 = .ok (.iload_n 0, 1) := by decide +kernel
theorem dX6_beginsStatement_8 : decode cX6_beginsStatement 8 = .ok (.sipush 259, 3) := by decide +kernel
theorem dX6_beginsStatement_11 : decode cX6_beginsStatement 11 = .ok (.if_icmp .ne 7, 3) := by decide +kernel
theorem dX6_beginsStatement_14 : decode cX6_beginsStatement 14 = .ok (.iconst 1, 1) := by decide +kernel
theorem dX6_beginsStatement_15 : decode cX6_beginsStatement 15 = .ok (.goto 4, 3) := by decide +kernel
theorem dX6_beginsStatement_18 : decode cX6_beginsStatement 18 = .ok (.iconst 0, 1) := by decide +kernel
theorem dX6_beginsStatement_19 : decode cX6_beginsStatement 19 = .ok (.istore_n 1, 1) := by decide +kernel
theorem dX6_beginsStatement_20 : decode cX6_beginsStatement 20 = .ok (.iload_n 1, 1) := by decide +kernel
theorem dX6_beginsStatement_21 : decode cX6_beginsStatement 21 = .ok (.ifCond .ne 17, 3) := by decide +kernel
theorem dX6_beginsStatement_24 : decode cX6_beginsStatement 24 = .ok (.iload_n 0, 1) := by decide +kernel
theorem dX6_beginsStatement_25 : decode cX6_beginsStatement 25 = .ok (.sipush 261, 3) := by decide +kernel
theorem dX6_beginsStatement_28 : decode cX6_beginsStatement 28 = .ok (.if_icmp .lt 14, 3) := by decide +kernel
theorem dX6_beginsStatement_31 : decode cX6_beginsStatement 31 = .ok (.iload_n 0, 1) := by decide +kernel
theorem dX6_beginsStatement_32 : decode cX6_beginsStatement 32 = .ok (.sipush 267, 3) := by decide +kernel
theorem dX6_beginsStatement_35 : decode cX6_beginsStatement 35 = .ok (.if_icmp .gt 7, 3) := by decide +kernel
theorem dX6_beginsStatement_38 : decode cX6_beginsStatement 38 = .ok (.iconst 1, 1) := by decide +kernel
theorem dX6_beginsStatement_39 : decode cX6_beginsStatement 39 = .ok (.goto 4, 3) := by decide +kernel
theorem dX6_beginsStatement_42 : decode cX6_beginsStatement 42 = .ok (.iconst 0, 1) := by decide +kernel
theorem dX6_beginsStatement_43 : decode cX6_beginsStatement 43 = .ok (.ireturn, 1) := by decide +kernel
theorem dX6_readStatement_0 : decode cX6_readStatement 0 = .ok (.aload_n 0, 1) := by decide +kernel
theorem dX6_readStatement_1 : decode cX6_readStatement 1 = .ok (.getfield 12, 3) := by decide +kernel
theorem dX6_readStatement_4 : decode cX6_readStatement 4 = .ok (.getfield 38, 3) := by decide +kernel
theorem dX6_readStatement_7 : decode cX6_readStatement 7 = .ok (.istore_n 1, 1) := by decide +kernel
theorem dX6_readStatement_8 : decode cX6_readStatement 8 = .ok (.iload_n 1, 1) := by decide +kernel
theorem dX6_readStatement_9 : decode cX6_readStatement 9 = .ok (.invokestatic 52, 3) := by decide +kernel
theorem dX6_readStatement_12 : decode cX6_readStatement 12 = .ok (.ifCond .ne 19, 3) := by decide +kernel
theorem dX6_readStatement_15 : decode cX6_readStatement 15 = .ok (.aload_n 0, 1) := by decide +kernel
theorem dX6_readStatement_16 : decode cX6_readStatement 16 = .ok (.getfield 12, 3) := by decide +kernel
theorem dX6_readStatement_19 : decode cX6_readStatement 19 = .ok (.iconst 1, 1) := by decide +kernel
theorem dX6_readStatement_20 : decode cX6_readStatement 20 = .ok (.aload_n 0, 1) := by decide +kernel
theorem dX6_readStatement_21 : decode cX6_readStatement 21 = .ok (.getfield 12, 3) := by decide +kernel
theorem dX6_readStatement_24 : decode cX6_readStatement 24 = .ok (.getfield 56, 3) := by decide +kernel
theorem dX6_readStatement_27 : decode cX6_readStatement 27 = .ok (.invokevirtual 59, 3) := by decide +kernel
theorem dX6_readStatement_30 : decode cX6_readStatement 30 = .ok (.return_, 1) := by decide +kernel
theorem dX6_readStatement_31 : decode cX6_readStatement 31 = .ok (.aload_n 0, 1) := by decide +kernel
theorem dX6_readStatement_32 : decode cX6_readStatement 32 = .ok (.getfield 25, 3) := by decide +kernel
theorem dX6_readStatement_35 : decode cX6_readStatement 35 = .ok (.iload_n 1, 1) := by decide +kernel
theorem dX6_readStatement_36 : decode cX6_readStatement 36 = .ok (.invokevirtual 63, 3) := by decide +kernel
theorem dX6_readStatement_39 : decode cX6_readStatement 39 = .ok (.ifCond .eq 20, 3) := by decide +kernel
theorem dX6_readStatement_42 : decode cX6_readStatement 42 = .ok (.aload_n 0, 1) := by decide +kernel
theorem dX6_readStatement_43 : decode cX6_readStatement 43 = .ok (.getfield 12, 3) := by decide +kernel
theorem dX6_readStatement_46 : decode cX6_readStatement 46 = .ok (.bipush 6, 2) := by decide +kernel
theorem dX6_readStatement_48 : decode cX6_readStatement 48 = .ok (.aload_n 0, 1) := by decide +kernel
theorem dX6_readStatement_49 : decode cX6_readStatement 49 = .ok (.getfield 12, 3) := by decide +kernel
theorem dX6_readStatement_52 : decode cX6_readStatement 52 = .ok (.getfield 56, 3) := by decide +kernel
theorem dX6_readStatement_55 : decode cX6_readStatement 55 = .ok (.invokevirtual 59, 3) := by decide +kernel
theorem dX6_readStatement_58 : decode cX6_readStatement 58 = .ok (.return_, 1) := by decide +kernel
theorem dX6_readStatement_59 : decode cX6_readStatement 59 = .ok (.aload_n 0, 1) := by decide +kernel
theorem dX6_readStatement_60 : decode cX6_readStatement 60 = .ok (.getfield 12, 3) := by decide +kernel
theorem dX6_readStatement_63 : decode cX6_readStatement 63 = .ok (.invokevirtual 66, 3) := by decide +kernel
theorem dX6_readStatement_66 : decode cX6_readStatement 66 = .ok (.iload_n 1, 1) := by decide +kernel
theorem dX6_readStatement_67 : decode cX6_readStatement 67 = .ok (.tableswitch 128 256 267 #[61, 128, 128, 68, 128, 128, 128, 128, 128, 75, 93, 111], 61) := by decide +kernel
theorem dX6_readStatement_128 : decode cX6_readStatement 128 = .ok (.aload_n 0, 1) := by decide +kernel
theorem dX6_readStatement_129 : decode cX6_readStatement 129 = .ok (.invokevirtual 69, 3) := by decide +kernel
theorem dX6_readStatement_132 : decode cX6_readStatement 132 = .ok (.goto 63, 3) := by decide +kernel
theorem dX6_readStatement_135 : decode cX6_readStatement 135 = .ok (.aload_n 0, 1) := by decide +kernel
theorem dX6_readStatement_136 : decode cX6_readStatement 136 = .ok (.invokevirtual 72, 3) := by decide +kernel
theorem dX6_readStatement_139 : decode cX6_readStatement 139 = .ok (.goto 56, 3) := by decide +kernel
theorem dX6_readStatement_142 : decode cX6_readStatement 142 = .ok (.aload_n 0, 1) := by decide +kernel
theorem dX6_readStatement_143 : decode cX6_readStatement 143 = .ok (.getfield 25, 3) := by decide +kernel
theorem dX6_readStatement_146 : decode cX6_readStatement 146 = .ok (.aload_n 0, 1) := by decide +kernel
theorem dX6_readStatement_147 : decode cX6_readStatement 147 = .ok (.iconst 0, 1) := by decide +kernel
theorem dX6_readStatement_148 : decode cX6_readStatement 148 = .ok (.sipush 999, 3) := by decide +kernel
theorem dX6_readStatement_151 : decode cX6_readStatement 151 = .ok (.invokevirtual 75, 3) := by decide +kernel
theorem dX6_readStatement_154 : decode cX6_readStatement 154 = .ok (.putfield 79, 3) := by decide +kernel
theorem dX6_readStatement_157 : decode cX6_readStatement 157 = .ok (.goto 38, 3) := by decide +kernel
theorem dX6_readStatement_160 : decode cX6_readStatement 160 = .ok (.aload_n 0, 1) := by decide +kernel
theorem dX6_readStatement_161 : decode cX6_readStatement 161 = .ok (.getfield 25, 3) := by decide +kernel
theorem dX6_readStatement_164 : decode cX6_readStatement 164 = .ok (.aload_n 0, 1) := by decide +kernel
theorem dX6_readStatement_165 : decode cX6_readStatement 165 = .ok (.iconst 0, 1) := by decide +kernel
theorem dX6_readStatement_166 : decode cX6_readStatement 166 = .ok (.sipush 999, 3) := by decide +kernel
theorem dX6_readStatement_169 : decode cX6_readStatement 169 = .ok (.invokevirtual 75, 3) := by decide +kernel
theorem dX6_readStatement_172 : decode cX6_readStatement 172 = .ok (.putfield 82, 3) := by decide +kernel
theorem dX6_readStatement_175 : decode cX6_readStatement 175 = .ok (.goto 20, 3) := by decide +kernel
theorem dX6_readStatement_178 : decode cX6_readStatement 178 = .ok (.aload_n 0, 1) := by decide +kernel
theorem dX6_readStatement_179 : decode cX6_readStatement 179 = .ok (.getfield 25, 3) := by decide +kernel
theorem dX6_readStatement_182 : decode cX6_readStatement 182 = .ok (.aload_n 0, 1) := by decide +kernel
theorem dX6_readStatement_183 : decode cX6_readStatement 183 = .ok (.iconst 0, 1) := by decide +kernel
theorem dX6_readStatement_184 : decode cX6_readStatement 184 = .ok (.bipush 100, 2) := by decide +kernel
theorem dX6_readStatement_186 : decode cX6_readStatement 186 = .ok (.invokevirtual 75, 3) := by decide +kernel
theorem dX6_readStatement_189 : decode cX6_readStatement 189 = .ok (.putfield 85, 3) := by decide +kernel
theorem dX6_readStatement_192 : decode cX6_readStatement 192 = .ok (.goto 3, 3) := by decide +kernel
theorem dX6_readStatement_195 : decode cX6_readStatement 195 = .ok (.iload_n 1, 1) := by decide +kernel
theorem dX6_readStatement_196 : decode cX6_readStatement 196 = .ok (.invokestatic 88, 3) := by decide +kernel
theorem dX6_readStatement_199 : decode cX6_readStatement 199 = .ok (.ifCond .eq 49, 3) := by decide +kernel
theorem dX6_readStatement_202 : decode cX6_readStatement 202 = .ok (.aload_n 0, 1) := by decide +kernel
theorem dX6_readStatement_203 : decode cX6_readStatement 203 = .ok (.iload_n 1, 1) := by decide +kernel
theorem dX6_readStatement_204 : decode cX6_readStatement 204 = .ok (.putfield 18, 3) := by decide +kernel
theorem dX6_readStatement_207 : decode cX6_readStatement 207 = .ok (.aload_n 0, 1) := by decide +kernel
theorem dX6_readStatement_208 : decode cX6_readStatement 208 = .ok (.getfield 25, 3) := by decide +kernel
theorem dX6_readStatement_211 : decode cX6_readStatement 211 = .ok (.iload_n 1, 1) := by decide +kernel
theorem dX6_readStatement_212 : decode cX6_readStatement 212 = .ok (.invokevirtual 91, 3) := by decide +kernel
theorem dX6_readStatement_215 : decode cX6_readStatement 215 = .ok (.iload_n 1, 1) := by decide +kernel
theorem dX6_readStatement_216 : decode cX6_readStatement 216 = .ok (.sipush 261, 3) := by decide +kernel
theorem dX6_readStatement_219 : decode cX6_readStatement 219 = .ok (.if_icmp .eq 10, 3) := by decide +kernel
theorem dX6_readStatement_222 : decode cX6_readStatement 222 = .ok (.iload_n 1, 1) := by decide +kernel
theorem dX6_readStatement_223 : decode cX6_readStatement 223 = .ok (.sipush 264, 3) := by decide +kernel
theorem dX6_readStatement_226 : decode cX6_readStatement 226 = .ok (.if_icmp .ne 10, 3) := by decide +kernel
theorem dX6_readStatement_229 : decode cX6_readStatement 229 = .ok (.aload_n 0, 1) := by decide +kernel
theorem dX6_readStatement_230 : decode cX6_readStatement 230 = .ok (.invokevirtual 95, 3) := by decide +kernel
theorem dX6_readStatement_233 : decode cX6_readStatement 233 = .ok (.goto 7, 3) := by decide +kernel
theorem dX6_readStatement_236 : decode cX6_readStatement 236 = .ok (.aload_n 0, 1) := by decide +kernel
theorem dX6_readStatement_237 : decode cX6_readStatement 237 = .ok (.invokevirtual 98, 3) := by decide +kernel
theorem dX6_readStatement_240 : decode cX6_readStatement 240 = .ok (.aload_n 0, 1) := by decide +kernel
theorem dX6_readStatement_241 : decode cX6_readStatement 241 = .ok (.getfield 25, 3) := by decide +kernel
theorem dX6_readStatement_244 : decode cX6_readStatement 244 = .ok (.iload_n 1, 1) := by decide +kernel
theorem dX6_readStatement_245 : decode cX6_readStatement 245 = .ok (.invokevirtual 101, 3) := by decide +kernel
theorem dX6_readStatement_248 : decode cX6_readStatement 248 = .ok (.aload_n 0, 1) := by decide +kernel
theorem dX6_readStatement_249 : decode cX6_readStatement 249 = .ok (.invokevirtual 104, 3) := by decide +kernel
theorem dX6_readStatement_252 : decode cX6_readStatement 252 = .ok (.return_, 1) := by decide +kernel
theorem dX6_endStatement_0 : decode cX6_endStatement 0 = .ok (.aload_n 0, 1) := by decide +kernel
theorem dX6_endStatement_1 : decode cX6_endStatement 1 = .ok (.getfield 12, 3) := by decide +kernel
theorem dX6_endStatement_4 : decode cX6_endStatement 4 = .ok (.getfield 38, 3) := by decide +kernel
theorem dX6_endStatement_7 : decode cX6_endStatement 7 = .ok (.bipush 59, 2) := by decide +kernel
theorem dX6_endStatement_9 : decode cX6_endStatement 9 = .ok (.if_icmp .eq 19, 3) := by decide +kernel
theorem dX6_endStatement_12 : decode cX6_endStatement 12 = .ok (.aload_n 0, 1) := by decide +kernel
theorem dX6_endStatement_13 : decode cX6_endStatement 13 = .ok (.getfield 12, 3) := by decide +kernel
theorem dX6_endStatement_16 : decode cX6_endStatement 16 = .ok (.iconst 1, 1) := by decide +kernel
theorem dX6_endStatement_17 : decode cX6_endStatement 17 = .ok (.aload_n 0, 1) := by decide +kernel
theorem dX6_endStatement_18 : decode cX6_endStatement 18 = .ok (.getfield 12, 3) := by decide +kernel
theorem dX6_endStatement_21 : decode cX6_endStatement 21 = .ok (.getfield 56, 3) := by decide +kernel
theorem dX6_endStatement_24 : decode cX6_endStatement 24 = .ok (.invokevirtual 59, 3) := by decide +kernel
theorem dX6_endStatement_27 : decode cX6_endStatement 27 = .ok (.return_, 1) := by decide +kernel
theorem dX6_endStatement_28 : decode cX6_endStatement 28 = .ok (.aload_n 0, 1) := by decide +kernel
theorem dX6_endStatement_29 : decode cX6_endStatement 29 = .ok (.getfield 25, 3) := by decide +kernel
theorem dX6_endStatement_32 : decode cX6_endStatement 32 = .ok (.dup, 1) := by decide +kernel
theorem dX6_endStatement_33 : decode cX6_endStatement 33 = .ok (.getfield 107, 3) := by decide +kernel
theorem dX6_endStatement_36 : decode cX6_endStatement 36 = .ok (.iconst 1, 1) := by decide +kernel
theorem dX6_endStatement_37 : decode cX6_endStatement 37 = .ok (.iadd, 1) := by decide +kernel
theorem dX6_endStatement_38 : decode cX6_endStatement 38 = .ok (.putfield 107, 3) := by decide +kernel
theorem dX6_endStatement_41 : decode cX6_endStatement 41 = .ok (.aload_n 0, 1) := by decide +kernel
theorem dX6_endStatement_42 : decode cX6_endStatement 42 = .ok (.getfield 25, 3) := by decide +kernel
theorem dX6_endStatement_45 : decode cX6_endStatement 45 = .ok (.getfield 107, 3) := by decide +kernel
theorem dX6_endStatement_48 : decode cX6_endStatement 48 = .ok (.bipush 80, 2) := by decide +kernel
theorem dX6_endStatement_50 : decode cX6_endStatement 50 = .ok (.if_icmp .lt 29, 3) := by decide +kernel
theorem dX6_endStatement_53 : decode cX6_endStatement 53 = .ok (.aload_n 0, 1) := by decide +kernel
theorem dX6_endStatement_54 : decode cX6_endStatement 54 = .ok (.getfield 12, 3) := by decide +kernel
theorem dX6_endStatement_57 : decode cX6_endStatement 57 = .ok (.invokevirtual 110, 3) := by decide +kernel
theorem dX6_endStatement_60 : decode cX6_endStatement 60 = .ok (.ifCond .ne 19, 3) := by decide +kernel
theorem dX6_endStatement_63 : decode cX6_endStatement 63 = .ok (.aload_n 0, 1) := by decide +kernel
theorem dX6_endStatement_64 : decode cX6_endStatement 64 = .ok (.getfield 12, 3) := by decide +kernel
theorem dX6_endStatement_67 : decode cX6_endStatement 67 = .ok (.bipush 6, 2) := by decide +kernel
theorem dX6_endStatement_69 : decode cX6_endStatement 69 = .ok (.aload_n 0, 1) := by decide +kernel
theorem dX6_endStatement_70 : decode cX6_endStatement 70 = .ok (.getfield 12, 3) := by decide +kernel
theorem dX6_endStatement_73 : decode cX6_endStatement 73 = .ok (.invokevirtual 114, 3) := by decide +kernel
theorem dX6_endStatement_76 : decode cX6_endStatement 76 = .ok (.invokevirtual 59, 3) := by decide +kernel
theorem dX6_endStatement_79 : decode cX6_endStatement 79 = .ok (.aload_n 0, 1) := by decide +kernel
theorem dX6_endStatement_80 : decode cX6_endStatement 80 = .ok (.getfield 12, 3) := by decide +kernel
theorem dX6_endStatement_83 : decode cX6_endStatement 83 = .ok (.invokevirtual 66, 3) := by decide +kernel
theorem dX6_endStatement_86 : decode cX6_endStatement 86 = .ok (.return_, 1) := by decide +kernel
theorem dX6_readChild_0 : decode cX6_readChild 0 = .ok (.aload_n 0, 1) := by decide +kernel
theorem dX6_readChild_1 : decode cX6_readChild 1 = .ok (.invokevirtual 118, 3) := by decide +kernel
theorem dX6_readChild_4 : decode cX6_readChild 4 = .ok (.istore_n 1, 1) := by decide +kernel
theorem dX6_readChild_5 : decode cX6_readChild 5 = .ok (.aload_n 0, 1) := by decide +kernel
theorem dX6_readChild_6 : decode cX6_readChild 6 = .ok (.sipush 257, 3) := by decide +kernel
theorem dX6_readChild_9 : decode cX6_readChild 9 = .ok (.invokevirtual 121, 3) := by decide +kernel
theorem dX6_readChild_12 : decode cX6_readChild 12 = .ok (.aload_n 0, 1) := by decide +kernel
theorem dX6_readChild_13 : decode cX6_readChild 13 = .ok (.iconst 0, 1) := by decide +kernel
theorem dX6_readChild_14 : decode cX6_readChild 14 = .ok (.bipush 99, 2) := by decide +kernel
theorem dX6_readChild_16 : decode cX6_readChild 16 = .ok (.invokevirtual 75, 3) := by decide +kernel
theorem dX6_readChild_19 : decode cX6_readChild 19 = .ok (.istore_n 2, 1) := by decide +kernel
theorem dX6_readChild_20 : decode cX6_readChild 20 = .ok (.aload_n 0, 1) := by decide +kernel
theorem dX6_readChild_21 : decode cX6_readChild 21 = .ok (.sipush 258, 3) := by decide +kernel
theorem dX6_readChild_24 : decode cX6_readChild 24 = .ok (.invokevirtual 121, 3) := by decide +kernel
theorem dX6_readChild_27 : decode cX6_readChild 27 = .ok (.aload_n 0, 1) := by decide +kernel
theorem dX6_readChild_28 : decode cX6_readChild 28 = .ok (.iconst 0, 1) := by decide +kernel
theorem dX6_readChild_29 : decode cX6_readChild 29 = .ok (.bipush 9, 2) := by decide +kernel
theorem dX6_readChild_31 : decode cX6_readChild 31 = .ok (.invokevirtual 75, 3) := by decide +kernel
theorem dX6_readChild_34 : decode cX6_readChild 34 = .ok (.istore_n 3, 1) := by decide +kernel
theorem dX6_readChild_35 : decode cX6_readChild 35 = .ok (.aload_n 0, 1) := by decide +kernel
theorem dX6_readChild_36 : decode cX6_readChild 36 = .ok (.getfield 25, 3) := by decide +kernel
theorem dX6_readChild_39 : decode cX6_readChild 39 = .ok (.iload_n 1, 1) := by decide +kernel
theorem dX6_readChild_40 : decode cX6_readChild 40 = .ok (.iload_n 2, 1) := by decide +kernel
theorem dX6_readChild_41 : decode cX6_readChild 41 = .ok (.iload_n 3, 1) := by decide +kernel
theorem dX6_readChild_42 : decode cX6_readChild 42 = .ok (.invokevirtual 124, 3) := by decide +kernel
theorem dX6_readChild_45 : decode cX6_readChild 45 = .ok (.return_, 1) := by decide +kernel
theorem dX6_readKiln_0 : decode cX6_readKiln 0 = .ok (.aload_n 0, 1) := by decide +kernel
theorem dX6_readKiln_1 : decode cX6_readKiln 1 = .ok (.invokevirtual 118, 3) := by decide +kernel
theorem dX6_readKiln_4 : decode cX6_readKiln 4 = .ok (.istore_n 1, 1) := by decide +kernel
theorem dX6_readKiln_5 : decode cX6_readKiln 5 = .ok (.aload_n 0, 1) := by decide +kernel
theorem dX6_readKiln_6 : decode cX6_readKiln 6 = .ok (.sipush 260, 3) := by decide +kernel
theorem dX6_readKiln_9 : decode cX6_readKiln 9 = .ok (.invokevirtual 121, 3) := by decide +kernel
theorem dX6_readKiln_12 : decode cX6_readKiln 12 = .ok (.aload_n 0, 1) := by decide +kernel
theorem dX6_readKiln_13 : decode cX6_readKiln 13 = .ok (.iconst 1, 1) := by decide +kernel
theorem dX6_readKiln_14 : decode cX6_readKiln 14 = .ok (.bipush 6, 2) := by decide +kernel
theorem dX6_readKiln_16 : decode cX6_readKiln 16 = .ok (.invokevirtual 75, 3) := by decide +kernel
theorem dX6_readKiln_19 : decode cX6_readKiln 19 = .ok (.istore_n 2, 1) := by decide +kernel
theorem dX6_readKiln_20 : decode cX6_readKiln 20 = .ok (.aload_n 0, 1) := by decide +kernel
theorem dX6_readKiln_21 : decode cX6_readKiln 21 = .ok (.getfield 25, 3) := by decide +kernel
theorem dX6_readKiln_24 : decode cX6_readKiln 24 = .ok (.iload_n 1, 1) := by decide +kernel
theorem dX6_readKiln_25 : decode cX6_readKiln 25 = .ok (.iload_n 2, 1) := by decide +kernel
theorem dX6_readKiln_26 : decode cX6_readKiln 26 = .ok (.invokevirtual 128, 3) := by decide +kernel
theorem dX6_readKiln_29 : decode cX6_readKiln 29 = .ok (.return_, 1) := by decide +kernel
theorem dX6_expect_0 : decode cX6_expect 0 = .ok (.aload_n 0, 1) := by decide +kernel
theorem dX6_expect_1 : decode cX6_expect 1 = .ok (.getfield 12, 3) := by decide +kernel
theorem dX6_expect_4 : decode cX6_expect 4 = .ok (.getfield 38, 3) := by decide +kernel
theorem dX6_expect_7 : decode cX6_expect 7 = .ok (.iload_n 1, 1) := by decide +kernel
theorem dX6_expect_8 : decode cX6_expect 8 = .ok (.if_icmp .ne 13, 3) := by decide +kernel
theorem dX6_expect_11 : decode cX6_expect 11 = .ok (.aload_n 0, 1) := by decide +kernel
theorem dX6_expect_12 : decode cX6_expect 12 = .ok (.getfield 12, 3) := by decide +kernel
theorem dX6_expect_15 : decode cX6_expect 15 = .ok (.invokevirtual 66, 3) := by decide +kernel
theorem dX6_expect_18 : decode cX6_expect 18 = .ok (.goto 18, 3) := by decide +kernel
theorem dX6_expect_21 : decode cX6_expect 21 = .ok (.aload_n 0, 1) := by decide +kernel
theorem dX6_expect_22 : decode cX6_expect 22 = .ok (.getfield 12, 3) := by decide +kernel
theorem dX6_expect_25 : decode cX6_expect 25 = .ok (.iconst 1, 1) := by decide +kernel
theorem dX6_expect_26 : decode cX6_expect 26 = .ok (.aload_n 0, 1) := by decide +kernel
theorem dX6_expect_27 : decode cX6_expect 27 = .ok (.getfield 12, 3) := by decide +kernel
theorem dX6_expect_30 : decode cX6_expect 30 = .ok (.getfield 56, 3) := by decide +kernel
theorem dX6_expect_33 : decode cX6_expect 33 = .ok (.invokevirtual 59, 3) := by decide +kernel
theorem dX6_expect_36 : decode cX6_expect 36 = .ok (.return_, 1) := by decide +kernel
theorem dX6_newName_0 : decode cX6_newName 0 = .ok (.aload_n 0, 1) := by decide +kernel
theorem dX6_newName_1 : decode cX6_newName 1 = .ok (.getfield 12, 3) := by decide +kernel
theorem dX6_newName_4 : decode cX6_newName 4 = .ok (.getfield 131, 3) := by decide +kernel
theorem dX6_newName_7 : decode cX6_newName 7 = .ok (.istore_n 1, 1) := by decide +kernel
theorem dX6_newName_8 : decode cX6_newName 8 = .ok (.aload_n 0, 1) := by decide +kernel
theorem dX6_newName_9 : decode cX6_newName 9 = .ok (.getfield 12, 3) := by decide +kernel
theorem dX6_newName_12 : decode cX6_newName 12 = .ok (.getfield 38, 3) := by decide +kernel
theorem dX6_newName_15 : decode cX6_newName 15 = .ok (.sipush 282, 3) := by decide +kernel
theorem dX6_newName_18 : decode cX6_newName 18 = .ok (.if_icmp .eq 21, 3) := by decide +kernel
theorem dX6_newName_21 : decode cX6_newName 21 = .ok (.aload_n 0, 1) := by decide +kernel
theorem dX6_newName_22 : decode cX6_newName 22 = .ok (.getfield 12, 3) := by decide +kernel
theorem dX6_newName_25 : decode cX6_newName 25 = .ok (.iconst 1, 1) := by decide +kernel
theorem dX6_newName_26 : decode cX6_newName 26 = .ok (.aload_n 0, 1) := by decide +kernel
theorem dX6_newName_27 : decode cX6_newName 27 = .ok (.getfield 12, 3) := by decide +kernel
theorem dX6_newName_30 : decode cX6_newName 30 = .ok (.getfield 56, 3) := by decide +kernel
theorem dX6_newName_33 : decode cX6_newName 33 = .ok (.invokevirtual 59, 3) := by decide +kernel
theorem dX6_newName_36 : decode cX6_newName 36 = .ok (.goto 39, 3) := by decide +kernel
theorem dX6_newName_39 : decode cX6_newName 39 = .ok (.aload_n 0, 1) := by decide +kernel
theorem dX6_newName_40 : decode cX6_newName 40 = .ok (.getfield 25, 3) := by decide +kernel
theorem dX6_newName_43 : decode cX6_newName 43 = .ok (.iload_n 1, 1) := by decide +kernel
theorem dX6_newName_44 : decode cX6_newName 44 = .ok (.invokevirtual 134, 3) := by decide +kernel
theorem dX6_newName_47 : decode cX6_newName 47 = .ok (.ifCond .eq 21, 3) := by decide +kernel
theorem dX6_newName_50 : decode cX6_newName 50 = .ok (.aload_n 0, 1) := by decide +kernel
theorem dX6_newName_51 : decode cX6_newName 51 = .ok (.getfield 12, 3) := by decide +kernel
theorem dX6_newName_54 : decode cX6_newName 54 = .ok (.iconst 2, 1) := by decide +kernel
theorem dX6_newName_55 : decode cX6_newName 55 = .ok (.aload_n 0, 1) := by decide +kernel
theorem dX6_newName_56 : decode cX6_newName 56 = .ok (.getfield 12, 3) := by decide +kernel
theorem dX6_newName_59 : decode cX6_newName 59 = .ok (.getfield 56, 3) := by decide +kernel
theorem dX6_newName_62 : decode cX6_newName 62 = .ok (.invokevirtual 59, 3) := by decide +kernel
theorem dX6_newName_65 : decode cX6_newName 65 = .ok (.goto 10, 3) := by decide +kernel
theorem dX6_newName_68 : decode cX6_newName 68 = .ok (.aload_n 0, 1) := by decide +kernel
theorem dX6_newName_69 : decode cX6_newName 69 = .ok (.getfield 12, 3) := by decide +kernel
theorem dX6_newName_72 : decode cX6_newName 72 = .ok (.invokevirtual 66, 3) := by decide +kernel
theorem dX6_newName_75 : decode cX6_newName 75 = .ok (.iload_n 1, 1) := by decide +kernel
theorem dX6_newName_76 : decode cX6_newName 76 = .ok (.ireturn, 1) := by decide +kernel
theorem dX6_number_0 : decode cX6_number 0 = .ok (.aload_n 0, 1) := by decide +kernel
theorem dX6_number_1 : decode cX6_number 1 = .ok (.getfield 12, 3) := by decide +kernel
theorem dX6_number_4 : decode cX6_number 4 = .ok (.getfield 131, 3) := by decide +kernel
theorem dX6_number_7 : decode cX6_number 7 = .ok (.istore_n 3, 1) := by decide +kernel
theorem dX6_number_8 : decode cX6_number 8 = .ok (.aload_n 0, 1) := by decide +kernel
theorem dX6_number_9 : decode cX6_number 9 = .ok (.getfield 12, 3) := by decide +kernel
theorem dX6_number_12 : decode cX6_number 12 = .ok (.getfield 38, 3) := by decide +kernel
theorem dX6_number_15 : decode cX6_number 15 = .ok (.sipush 283, 3) := by decide +kernel
theorem dX6_number_18 : decode cX6_number 18 = .ok (.if_icmp .eq 21, 3) := by decide +kernel
theorem dX6_number_21 : decode cX6_number 21 = .ok (.aload_n 0, 1) := by decide +kernel
theorem dX6_number_22 : decode cX6_number 22 = .ok (.getfield 12, 3) := by decide +kernel
theorem dX6_number_25 : decode cX6_number 25 = .ok (.iconst 1, 1) := by decide +kernel
theorem dX6_number_26 : decode cX6_number 26 = .ok (.aload_n 0, 1) := by decide +kernel
theorem dX6_number_27 : decode cX6_number 27 = .ok (.getfield 12, 3) := by decide +kernel
theorem dX6_number_30 : decode cX6_number 30 = .ok (.getfield 56, 3) := by decide +kernel
theorem dX6_number_33 : decode cX6_number 33 = .ok (.invokevirtual 59, 3) := by decide +kernel
theorem dX6_number_36 : decode cX6_number 36 = .ok (.goto 40, 3) := by decide +kernel
theorem dX6_number_39 : decode cX6_number 39 = .ok (.iload_n 3, 1) := by decide +kernel
theorem dX6_number_40 : decode cX6_number 40 = .ok (.iload_n 1, 1) := by decide +kernel
theorem dX6_number_41 : decode cX6_number 41 = .ok (.if_icmp .lt 8, 3) := by decide +kernel
theorem dX6_number_44 : decode cX6_number 44 = .ok (.iload_n 3, 1) := by decide +kernel
theorem dX6_number_45 : decode cX6_number 45 = .ok (.iload_n 2, 1) := by decide +kernel
theorem dX6_number_46 : decode cX6_number 46 = .ok (.if_icmp .le 21, 3) := by decide +kernel
theorem dX6_number_49 : decode cX6_number 49 = .ok (.aload_n 0, 1) := by decide +kernel
theorem dX6_number_50 : decode cX6_number 50 = .ok (.getfield 12, 3) := by decide +kernel
theorem dX6_number_53 : decode cX6_number 53 = .ok (.iconst 4, 1) := by decide +kernel
theorem dX6_number_54 : decode cX6_number 54 = .ok (.aload_n 0, 1) := by decide +kernel
theorem dX6_number_55 : decode cX6_number 55 = .ok (.getfield 12, 3) := by decide +kernel
theorem dX6_number_58 : decode cX6_number 58 = .ok (.getfield 56, 3) := by decide +kernel
theorem dX6_number_61 : decode cX6_number 61 = .ok (.invokevirtual 59, 3) := by decide +kernel
theorem dX6_number_64 : decode cX6_number 64 = .ok (.goto 12, 3) := by decide +kernel
theorem dX6_number_67 : decode cX6_number 67 = .ok (.aload_n 0, 1) := by decide +kernel
theorem dX6_number_68 : decode cX6_number 68 = .ok (.getfield 12, 3) := by decide +kernel
theorem dX6_number_71 : decode cX6_number 71 = .ok (.invokevirtual 66, 3) := by decide +kernel
theorem dX6_number_74 : decode cX6_number 74 = .ok (.iload_n 3, 1) := by decide +kernel
theorem dX6_number_75 : decode cX6_number 75 = .ok (.ireturn, 1) := by decide +kernel
theorem dX6_number_76 : decode cX6_number 76 = .ok (.iload_n 1, 1) := by decide +kernel
theorem dX6_number_77 : decode cX6_number 77 = .ok (.ireturn, 1) := by decide +kernel
theorem dX6_openOne_0 : decode cX6_openOne 0 = .ok (.aload_n 0, 1) := by decide +kernel
theorem dX6_openOne_1 : decode cX6_openOne 1 = .ok (.getfield 12, 3) := by decide +kernel
theorem dX6_openOne_4 : decode cX6_openOne 4 = .ok (.getfield 38, 3) := by decide +kernel
theorem dX6_openOne_7 : decode cX6_openOne 7 = .ok (.iload_n 1, 1) := by decide +kernel
theorem dX6_openOne_8 : decode cX6_openOne 8 = .ok (.if_icmp .eq 20, 3) := by decide +kernel
theorem dX6_openOne_11 : decode cX6_openOne 11 = .ok (.aload_n 0, 1) := by decide +kernel
theorem dX6_openOne_12 : decode cX6_openOne 12 = .ok (.getfield 12, 3) := by decide +kernel
theorem dX6_openOne_15 : decode cX6_openOne 15 = .ok (.iconst 1, 1) := by decide +kernel
theorem dX6_openOne_16 : decode cX6_openOne 16 = .ok (.aload_n 0, 1) := by decide +kernel
theorem dX6_openOne_17 : decode cX6_openOne 17 = .ok (.getfield 12, 3) := by decide +kernel
theorem dX6_openOne_20 : decode cX6_openOne 20 = .ok (.getfield 56, 3) := by decide +kernel
theorem dX6_openOne_23 : decode cX6_openOne 23 = .ok (.invokevirtual 59, 3) := by decide +kernel
theorem dX6_openOne_26 : decode cX6_openOne 26 = .ok (.iconst 0, 1) := by decide +kernel
theorem dX6_openOne_27 : decode cX6_openOne 27 = .ok (.ireturn, 1) := by decide +kernel
theorem dX6_openOne_28 : decode cX6_openOne 28 = .ok (.aload_n 0, 1) := by decide +kernel
theorem dX6_openOne_29 : decode cX6_openOne 29 = .ok (.getfield 22, 3) := by decide +kernel
theorem dX6_openOne_32 : decode cX6_openOne 32 = .ok (.bipush 7, 2) := by decide +kernel
theorem dX6_openOne_34 : decode cX6_openOne 34 = .ok (.if_icmp .lt 20, 3) := by decide +kernel
theorem dX6_openOne_37 : decode cX6_openOne 37 = .ok (.aload_n 0, 1) := by decide +kernel
theorem dX6_openOne_38 : decode cX6_openOne 38 = .ok (.getfield 12, 3) := by decide +kernel
theorem dX6_openOne_41 : decode cX6_openOne 41 = .ok (.iconst 5, 1) := by decide +kernel
theorem dX6_openOne_42 : decode cX6_openOne 42 = .ok (.aload_n 0, 1) := by decide +kernel
theorem dX6_openOne_43 : decode cX6_openOne 43 = .ok (.getfield 12, 3) := by decide +kernel
theorem dX6_openOne_46 : decode cX6_openOne 46 = .ok (.getfield 56, 3) := by decide +kernel
theorem dX6_openOne_49 : decode cX6_openOne 49 = .ok (.invokevirtual 59, 3) := by decide +kernel
theorem dX6_openOne_52 : decode cX6_openOne 52 = .ok (.iconst 0, 1) := by decide +kernel
theorem dX6_openOne_53 : decode cX6_openOne 53 = .ok (.ireturn, 1) := by decide +kernel
theorem dX6_openOne_54 : decode cX6_openOne 54 = .ok (.aload_n 0, 1) := by decide +kernel
theorem dX6_openOne_55 : decode cX6_openOne 55 = .ok (.dup, 1) := by decide +kernel
theorem dX6_openOne_56 : decode cX6_openOne 56 = .ok (.getfield 22, 3) := by decide +kernel
theorem dX6_openOne_59 : decode cX6_openOne 59 = .ok (.iconst 1, 1) := by decide +kernel
theorem dX6_openOne_60 : decode cX6_openOne 60 = .ok (.iadd, 1) := by decide +kernel
theorem dX6_openOne_61 : decode cX6_openOne 61 = .ok (.putfield 22, 3) := by decide +kernel
theorem dX6_openOne_64 : decode cX6_openOne 64 = .ok (.aload_n 0, 1) := by decide +kernel
theorem dX6_openOne_65 : decode cX6_openOne 65 = .ok (.getfield 12, 3) := by decide +kernel
theorem dX6_openOne_68 : decode cX6_openOne 68 = .ok (.invokevirtual 66, 3) := by decide +kernel
theorem dX6_openOne_71 : decode cX6_openOne 71 = .ok (.iconst 1, 1) := by decide +kernel
theorem dX6_openOne_72 : decode cX6_openOne 72 = .ok (.ireturn, 1) := by decide +kernel
theorem dX6_closeOne_0 : decode cX6_closeOne 0 = .ok (.aload_n 0, 1) := by decide +kernel
theorem dX6_closeOne_1 : decode cX6_closeOne 1 = .ok (.dup, 1) := by decide +kernel
theorem dX6_closeOne_2 : decode cX6_closeOne 2 = .ok (.getfield 22, 3) := by decide +kernel
theorem dX6_closeOne_5 : decode cX6_closeOne 5 = .ok (.iconst 1, 1) := by decide +kernel
theorem dX6_closeOne_6 : decode cX6_closeOne 6 = .ok (.isub, 1) := by decide +kernel
theorem dX6_closeOne_7 : decode cX6_closeOne 7 = .ok (.putfield 22, 3) := by decide +kernel
theorem dX6_closeOne_10 : decode cX6_closeOne 10 = .ok (.aload_n 0, 1) := by decide +kernel
theorem dX6_closeOne_11 : decode cX6_closeOne 11 = .ok (.getfield 12, 3) := by decide +kernel
theorem dX6_closeOne_14 : decode cX6_closeOne 14 = .ok (.getfield 38, 3) := by decide +kernel
theorem dX6_closeOne_17 : decode cX6_closeOne 17 = .ok (.iload_n 1, 1) := by decide +kernel
theorem dX6_closeOne_18 : decode cX6_closeOne 18 = .ok (.if_icmp .ne 13, 3) := by decide +kernel
theorem dX6_closeOne_21 : decode cX6_closeOne 21 = .ok (.aload_n 0, 1) := by decide +kernel
theorem dX6_closeOne_22 : decode cX6_closeOne 22 = .ok (.getfield 12, 3) := by decide +kernel
theorem dX6_closeOne_25 : decode cX6_closeOne 25 = .ok (.invokevirtual 66, 3) := by decide +kernel
theorem dX6_closeOne_28 : decode cX6_closeOne 28 = .ok (.goto 18, 3) := by decide +kernel
theorem dX6_closeOne_31 : decode cX6_closeOne 31 = .ok (.aload_n 0, 1) := by decide +kernel
theorem dX6_closeOne_32 : decode cX6_closeOne 32 = .ok (.getfield 12, 3) := by decide +kernel
theorem dX6_closeOne_35 : decode cX6_closeOne 35 = .ok (.iconst 1, 1) := by decide +kernel
theorem dX6_closeOne_36 : decode cX6_closeOne 36 = .ok (.aload_n 0, 1) := by decide +kernel
theorem dX6_closeOne_37 : decode cX6_closeOne 37 = .ok (.getfield 12, 3) := by decide +kernel
theorem dX6_closeOne_40 : decode cX6_closeOne 40 = .ok (.getfield 56, 3) := by decide +kernel
theorem dX6_closeOne_43 : decode cX6_closeOne 43 = .ok (.invokevirtual 59, 3) := by decide +kernel
theorem dX6_closeOne_46 : decode cX6_closeOne 46 = .ok (.return_, 1) := by decide +kernel
theorem dX6_readSum_0 : decode cX6_readSum 0 = .ok (.aload_n 0, 1) := by decide +kernel
theorem dX6_readSum_1 : decode cX6_readSum 1 = .ok (.invokevirtual 137, 3) := by decide +kernel
theorem dX6_readSum_4 : decode cX6_readSum 4 = .ok (.iconst 0, 1) := by decide +kernel
theorem dX6_readSum_5 : decode cX6_readSum 5 = .ok (.istore_n 1, 1) := by decide +kernel
theorem dX6_readSum_6 : decode cX6_readSum 6 = .ok (.iload_n 1, 1) := by decide +kernel
theorem dX6_readSum_7 : decode cX6_readSum 7 = .ok (.sipush 1600, 3) := by decide +kernel
theorem dX6_readSum_10 : decode cX6_readSum 10 = .ok (.if_icmp .ge 60, 3) := by decide +kernel
theorem dX6_readSum_13 : decode cX6_readSum 13 = .ok (.aload_n 0, 1) := by decide +kernel
theorem dX6_readSum_14 : decode cX6_readSum 14 = .ok (.getfield 12, 3) := by decide +kernel
theorem dX6_readSum_17 : decode cX6_readSum 17 = .ok (.getfield 38, 3) := by decide +kernel
theorem dX6_readSum_20 : decode cX6_readSum 20 = .ok (.bipush 43, 2) := by decide +kernel
theorem dX6_readSum_22 : decode cX6_readSum 22 = .ok (.if_icmp .eq 15, 3) := by decide +kernel
theorem dX6_readSum_25 : decode cX6_readSum 25 = .ok (.aload_n 0, 1) := by decide +kernel
theorem dX6_readSum_26 : decode cX6_readSum 26 = .ok (.getfield 12, 3) := by decide +kernel
theorem dX6_readSum_29 : decode cX6_readSum 29 = .ok (.getfield 38, 3) := by decide +kernel
theorem dX6_readSum_32 : decode cX6_readSum 32 = .ok (.bipush 45, 2) := by decide +kernel
theorem dX6_readSum_34 : decode cX6_readSum 34 = .ok (.if_icmp .ne 36, 3) := by decide +kernel
theorem dX6_readSum_37 : decode cX6_readSum 37 = .ok (.aload_n 0, 1) := by decide +kernel
theorem dX6_readSum_38 : decode cX6_readSum 38 = .ok (.getfield 12, 3) := by decide +kernel
theorem dX6_readSum_41 : decode cX6_readSum 41 = .ok (.getfield 38, 3) := by decide +kernel
theorem dX6_readSum_44 : decode cX6_readSum 44 = .ok (.istore_n 2, 1) := by decide +kernel
theorem dX6_readSum_45 : decode cX6_readSum 45 = .ok (.aload_n 0, 1) := by decide +kernel
theorem dX6_readSum_46 : decode cX6_readSum 46 = .ok (.getfield 12, 3) := by decide +kernel
theorem dX6_readSum_49 : decode cX6_readSum 49 = .ok (.invokevirtual 66, 3) := by decide +kernel
theorem dX6_readSum_52 : decode cX6_readSum 52 = .ok (.aload_n 0, 1) := by decide +kernel
theorem dX6_readSum_53 : decode cX6_readSum 53 = .ok (.invokevirtual 137, 3) := by decide +kernel
theorem dX6_readSum_56 : decode cX6_readSum 56 = .ok (.aload_n 0, 1) := by decide +kernel
theorem dX6_readSum_57 : decode cX6_readSum 57 = .ok (.getfield 25, 3) := by decide +kernel
theorem dX6_readSum_60 : decode cX6_readSum 60 = .ok (.iload_n 2, 1) := by decide +kernel
theorem dX6_readSum_61 : decode cX6_readSum 61 = .ok (.invokevirtual 140, 3) := by decide +kernel
theorem dX6_readSum_64 : decode cX6_readSum 64 = .ok (.iinc 1 1, 3) := by decide +kernel
theorem dX6_readSum_67 : decode cX6_readSum 67 = .ok (.goto (-61), 3) := by decide +kernel
theorem dX6_readSum_70 : decode cX6_readSum 70 = .ok (.return_, 1) := by decide +kernel
theorem dX6_readProduct_0 : decode cX6_readProduct 0 = .ok (.aload_n 0, 1) := by decide +kernel
theorem dX6_readProduct_1 : decode cX6_readProduct 1 = .ok (.invokevirtual 143, 3) := by decide +kernel
theorem dX6_readProduct_4 : decode cX6_readProduct 4 = .ok (.iconst 0, 1) := by decide +kernel
theorem dX6_readProduct_5 : decode cX6_readProduct 5 = .ok (.istore_n 1, 1) := by decide +kernel
theorem dX6_readProduct_6 : decode cX6_readProduct 6 = .ok (.iload_n 1, 1) := by decide +kernel
theorem dX6_readProduct_7 : decode cX6_readProduct 7 = .ok (.sipush 1600, 3) := by decide +kernel
theorem dX6_readProduct_10 : decode cX6_readProduct 10 = .ok (.if_icmp .ge 49, 3) := by decide +kernel
theorem dX6_readProduct_13 : decode cX6_readProduct 13 = .ok (.aload_n 0, 1) := by decide +kernel
theorem dX6_readProduct_14 : decode cX6_readProduct 14 = .ok (.getfield 12, 3) := by decide +kernel
theorem dX6_readProduct_17 : decode cX6_readProduct 17 = .ok (.getfield 38, 3) := by decide +kernel
theorem dX6_readProduct_20 : decode cX6_readProduct 20 = .ok (.invokestatic 146, 3) := by decide +kernel
theorem dX6_readProduct_23 : decode cX6_readProduct 23 = .ok (.ifCond .eq 36, 3) := by decide +kernel
theorem dX6_readProduct_26 : decode cX6_readProduct 26 = .ok (.aload_n 0, 1) := by decide +kernel
theorem dX6_readProduct_27 : decode cX6_readProduct 27 = .ok (.getfield 12, 3) := by decide +kernel
theorem dX6_readProduct_30 : decode cX6_readProduct 30 = .ok (.getfield 38, 3) := by decide +kernel
theorem dX6_readProduct_33 : decode cX6_readProduct 33 = .ok (.istore_n 2, 1) := by decide +kernel
theorem dX6_readProduct_34 : decode cX6_readProduct 34 = .ok (.aload_n 0, 1) := by decide +kernel
theorem dX6_readProduct_35 : decode cX6_readProduct 35 = .ok (.getfield 12, 3) := by decide +kernel
theorem dX6_readProduct_38 : decode cX6_readProduct 38 = .ok (.invokevirtual 66, 3) := by decide +kernel
theorem dX6_readProduct_41 : decode cX6_readProduct 41 = .ok (.aload_n 0, 1) := by decide +kernel
theorem dX6_readProduct_42 : decode cX6_readProduct 42 = .ok (.invokevirtual 143, 3) := by decide +kernel
theorem dX6_readProduct_45 : decode cX6_readProduct 45 = .ok (.aload_n 0, 1) := by decide +kernel
theorem dX6_readProduct_46 : decode cX6_readProduct 46 = .ok (.getfield 25, 3) := by decide +kernel
theorem dX6_readProduct_49 : decode cX6_readProduct 49 = .ok (.iload_n 2, 1) := by decide +kernel
theorem dX6_readProduct_50 : decode cX6_readProduct 50 = .ok (.invokevirtual 140, 3) := by decide +kernel
theorem dX6_readProduct_53 : decode cX6_readProduct 53 = .ok (.iinc 1 1, 3) := by decide +kernel
theorem dX6_readProduct_56 : decode cX6_readProduct 56 = .ok (.goto (-50), 3) := by decide +kernel
theorem dX6_readProduct_59 : decode cX6_readProduct 59 = .ok (.return_, 1) := by decide +kernel
theorem dX6_isProductSign_0 : decode cX6_isProductSign 0 = .ok (.iload_n 0, 1) := by decide +kernel
theorem dX6_isProductSign_1 : decode cX6_isProductSign 1 = .ok (.bipush 42, 2) := by decide +kernel
theorem dX6_isProductSign_3 : decode cX6_isProductSign 3 = .ok (.if_icmp .eq 15, 3) := by decide +kernel
theorem dX6_isProductSign_6 : decode cX6_isProductSign 6 = .ok (.iload_n 0, 1) := by decide +kernel
theorem dX6_isProductSign_7 : decode cX6_isProductSign 7 = .ok (.bipush 47, 2) := by decide +kernel
theorem dX6_isProductSign_9 : decode cX6_isProductSign 9 = .ok (.if_icmp .eq 9, 3) := by decide +kernel
theorem dX6_isProductSign_12 : decode cX6_isProductSign 12 = .ok (.iload_n 0, 1) := by decide +kernel
theorem dX6_isProductSign_13 : decode cX6_isProductSign 13 = .ok (.bipush 37, 2) := by decide +kernel
theorem dX6_isProductSign_15 : decode cX6_isProductSign 15 = .ok (.if_icmp .ne 7, 3) := by decide +kernel
theorem dX6_isProductSign_18 : decode cX6_isProductSign 18 = .ok (.iconst 1, 1) := by decide +kernel
theorem dX6_isProductSign_19 : decode cX6_isProductSign 19 = .ok (.goto 4, 3) := by decide +kernel
theorem dX6_isProductSign_22 : decode cX6_isProductSign 22 = .ok (.iconst 0, 1) := by decide +kernel
theorem dX6_isProductSign_23 : decode cX6_isProductSign 23 = .ok (.ireturn, 1) := by decide +kernel
theorem dX6_readPart_0 : decode cX6_readPart 0 = .ok (.aload_n 0, 1) := by decide +kernel
theorem dX6_readPart_1 : decode cX6_readPart 1 = .ok (.getfield 12, 3) := by decide +kernel
theorem dX6_readPart_4 : decode cX6_readPart 4 = .ok (.getfield 38, 3) := by decide +kernel
theorem dX6_readPart_7 : decode cX6_readPart 7 = .ok (.istore_n 1, 1) := by decide +kernel
theorem dX6_readPart_8 : decode cX6_readPart 8 = .ok (.iload_n 1, 1) := by decide +kernel
theorem dX6_readPart_9 : decode cX6_readPart 9 = .ok (.lookupswitch 94 #[(40, 79), (275, 86), (280, 86), (281, 86), (283, 51)], 51) := by decide +kernel
theorem dX6_readPart_60 : decode cX6_readPart 60 = .ok (.aload_n 0, 1) := by decide +kernel
theorem dX6_readPart_61 : decode cX6_readPart 61 = .ok (.getfield 25, 3) := by decide +kernel
theorem dX6_readPart_64 : decode cX6_readPart 64 = .ok (.sipush 1000, 3) := by decide +kernel
theorem dX6_readPart_67 : decode cX6_readPart 67 = .ok (.aload_n 0, 1) := by decide +kernel
theorem dX6_readPart_68 : decode cX6_readPart 68 = .ok (.getfield 12, 3) := by decide +kernel
theorem dX6_readPart_71 : decode cX6_readPart 71 = .ok (.getfield 131, 3) := by decide +kernel
theorem dX6_readPart_74 : decode cX6_readPart 74 = .ok (.iadd, 1) := by decide +kernel
theorem dX6_readPart_75 : decode cX6_readPart 75 = .ok (.invokevirtual 140, 3) := by decide +kernel
theorem dX6_readPart_78 : decode cX6_readPart 78 = .ok (.aload_n 0, 1) := by decide +kernel
theorem dX6_readPart_79 : decode cX6_readPart 79 = .ok (.getfield 12, 3) := by decide +kernel
theorem dX6_readPart_82 : decode cX6_readPart 82 = .ok (.invokevirtual 66, 3) := by decide +kernel
theorem dX6_readPart_85 : decode cX6_readPart 85 = .ok (.goto 23, 3) := by decide +kernel
theorem dX6_readPart_88 : decode cX6_readPart 88 = .ok (.aload_n 0, 1) := by decide +kernel
theorem dX6_readPart_89 : decode cX6_readPart 89 = .ok (.invokevirtual 151, 3) := by decide +kernel
theorem dX6_readPart_92 : decode cX6_readPart 92 = .ok (.goto 16, 3) := by decide +kernel
theorem dX6_readPart_95 : decode cX6_readPart 95 = .ok (.aload_n 0, 1) := by decide +kernel
theorem dX6_readPart_96 : decode cX6_readPart 96 = .ok (.iload_n 1, 1) := by decide +kernel
theorem dX6_readPart_97 : decode cX6_readPart 97 = .ok (.invokevirtual 154, 3) := by decide +kernel
theorem dX6_readPart_100 : decode cX6_readPart 100 = .ok (.goto 8, 3) := by decide +kernel
theorem dX6_readPart_103 : decode cX6_readPart 103 = .ok (.aload_n 0, 1) := by decide +kernel
theorem dX6_readPart_104 : decode cX6_readPart 104 = .ok (.iload_n 1, 1) := by decide +kernel
theorem dX6_readPart_105 : decode cX6_readPart 105 = .ok (.invokevirtual 157, 3) := by decide +kernel
theorem dX6_readPart_108 : decode cX6_readPart 108 = .ok (.return_, 1) := by decide +kernel
theorem dX6_readBracket_0 : decode cX6_readBracket 0 = .ok (.aload_n 0, 1) := by decide +kernel
theorem dX6_readBracket_1 : decode cX6_readBracket 1 = .ok (.bipush 40, 2) := by decide +kernel
theorem dX6_readBracket_3 : decode cX6_readBracket 3 = .ok (.invokevirtual 160, 3) := by decide +kernel
theorem dX6_readBracket_6 : decode cX6_readBracket 6 = .ok (.ifCond .eq 13, 3) := by decide +kernel
theorem dX6_readBracket_9 : decode cX6_readBracket 9 = .ok (.aload_n 0, 1) := by decide +kernel
theorem dX6_readBracket_10 : decode cX6_readBracket 10 = .ok (.invokevirtual 95, 3) := by decide +kernel
theorem dX6_readBracket_13 : decode cX6_readBracket 13 = .ok (.aload_n 0, 1) := by decide +kernel
theorem dX6_readBracket_14 : decode cX6_readBracket 14 = .ok (.bipush 41, 2) := by decide +kernel
theorem dX6_readBracket_16 : decode cX6_readBracket 16 = .ok (.invokevirtual 163, 3) := by decide +kernel
theorem dX6_readBracket_19 : decode cX6_readBracket 19 = .ok (.return_, 1) := by decide +kernel
theorem dX6_readChoice_0 : decode cX6_readChoice 0 = .ok (.aload_n 0, 1) := by decide +kernel
theorem dX6_readChoice_1 : decode cX6_readChoice 1 = .ok (.getfield 12, 3) := by decide +kernel
theorem dX6_readChoice_4 : decode cX6_readChoice 4 = .ok (.invokevirtual 66, 3) := by decide +kernel
theorem dX6_readChoice_7 : decode cX6_readChoice 7 = .ok (.aload_n 0, 1) := by decide +kernel
theorem dX6_readChoice_8 : decode cX6_readChoice 8 = .ok (.bipush 40, 2) := by decide +kernel
theorem dX6_readChoice_10 : decode cX6_readChoice 10 = .ok (.invokevirtual 160, 3) := by decide +kernel
theorem dX6_readChoice_13 : decode cX6_readChoice 13 = .ok (.ifCond .ne 4, 3) := by decide +kernel
theorem dX6_readChoice_16 : decode cX6_readChoice 16 = .ok (.return_, 1) := by decide +kernel
theorem dX6_readChoice_17 : decode cX6_readChoice 17 = .ok (.iload_n 1, 1) := by decide +kernel
theorem dX6_readChoice_18 : decode cX6_readChoice 18 = .ok (.sipush 275, 3) := by decide +kernel
theorem dX6_readChoice_21 : decode cX6_readChoice 21 = .ok (.if_icmp .ne 13, 3) := by decide +kernel
theorem dX6_readChoice_24 : decode cX6_readChoice 24 = .ok (.aload_n 0, 1) := by decide +kernel
theorem dX6_readChoice_25 : decode cX6_readChoice 25 = .ok (.invokevirtual 98, 3) := by decide +kernel
theorem dX6_readChoice_28 : decode cX6_readChoice 28 = .ok (.aload_n 0, 1) := by decide +kernel
theorem dX6_readChoice_29 : decode cX6_readChoice 29 = .ok (.bipush 44, 2) := by decide +kernel
theorem dX6_readChoice_31 : decode cX6_readChoice 31 = .ok (.invokevirtual 121, 3) := by decide +kernel
theorem dX6_readChoice_34 : decode cX6_readChoice 34 = .ok (.aload_n 0, 1) := by decide +kernel
theorem dX6_readChoice_35 : decode cX6_readChoice 35 = .ok (.invokevirtual 95, 3) := by decide +kernel
theorem dX6_readChoice_38 : decode cX6_readChoice 38 = .ok (.aload_n 0, 1) := by decide +kernel
theorem dX6_readChoice_39 : decode cX6_readChoice 39 = .ok (.bipush 44, 2) := by decide +kernel
theorem dX6_readChoice_41 : decode cX6_readChoice 41 = .ok (.invokevirtual 121, 3) := by decide +kernel
theorem dX6_readChoice_44 : decode cX6_readChoice 44 = .ok (.aload_n 0, 1) := by decide +kernel
theorem dX6_readChoice_45 : decode cX6_readChoice 45 = .ok (.invokevirtual 95, 3) := by decide +kernel
theorem dX6_readChoice_48 : decode cX6_readChoice 48 = .ok (.aload_n 0, 1) := by decide +kernel
theorem dX6_readChoice_49 : decode cX6_readChoice 49 = .ok (.bipush 41, 2) := by decide +kernel
theorem dX6_readChoice_51 : decode cX6_readChoice 51 = .ok (.invokevirtual 163, 3) := by decide +kernel
theorem dX6_readChoice_54 : decode cX6_readChoice 54 = .ok (.aload_n 0, 1) := by decide +kernel
theorem dX6_readChoice_55 : decode cX6_readChoice 55 = .ok (.getfield 25, 3) := by decide +kernel
theorem dX6_readChoice_58 : decode cX6_readChoice 58 = .ok (.iload_n 1, 1) := by decide +kernel
theorem dX6_readChoice_59 : decode cX6_readChoice 59 = .ok (.invokevirtual 140, 3) := by decide +kernel
theorem dX6_readChoice_62 : decode cX6_readChoice 62 = .ok (.return_, 1) := by decide +kernel
theorem dX6_readFactWord_0 : decode cX6_readFactWord 0 = .ok (.aload_n 0, 1) := by decide +kernel
theorem dX6_readFactWord_1 : decode cX6_readFactWord 1 = .ok (.iload_n 1, 1) := by decide +kernel
theorem dX6_readFactWord_2 : decode cX6_readFactWord 2 = .ok (.invokevirtual 166, 3) := by decide +kernel
theorem dX6_readFactWord_5 : decode cX6_readFactWord 5 = .ok (.ifCond .eq 21, 3) := by decide +kernel
theorem dX6_readFactWord_8 : decode cX6_readFactWord 8 = .ok (.aload_n 0, 1) := by decide +kernel
theorem dX6_readFactWord_9 : decode cX6_readFactWord 9 = .ok (.getfield 25, 3) := by decide +kernel
theorem dX6_readFactWord_12 : decode cX6_readFactWord 12 = .ok (.iload_n 1, 1) := by decide +kernel
theorem dX6_readFactWord_13 : decode cX6_readFactWord 13 = .ok (.invokevirtual 140, 3) := by decide +kernel
theorem dX6_readFactWord_16 : decode cX6_readFactWord 16 = .ok (.aload_n 0, 1) := by decide +kernel
theorem dX6_readFactWord_17 : decode cX6_readFactWord 17 = .ok (.getfield 12, 3) := by decide +kernel
theorem dX6_readFactWord_20 : decode cX6_readFactWord 20 = .ok (.invokevirtual 66, 3) := by decide +kernel
theorem dX6_readFactWord_23 : decode cX6_readFactWord 23 = .ok (.goto 18, 3) := by decide +kernel
theorem dX6_readFactWord_26 : decode cX6_readFactWord 26 = .ok (.aload_n 0, 1) := by decide +kernel
theorem dX6_readFactWord_27 : decode cX6_readFactWord 27 = .ok (.getfield 12, 3) := by decide +kernel
theorem dX6_readFactWord_30 : decode cX6_readFactWord 30 = .ok (.iconst 1, 1) := by decide +kernel
theorem dX6_readFactWord_31 : decode cX6_readFactWord 31 = .ok (.aload_n 0, 1) := by decide +kernel
theorem dX6_readFactWord_32 : decode cX6_readFactWord 32 = .ok (.getfield 12, 3) := by decide +kernel
theorem dX6_readFactWord_35 : decode cX6_readFactWord 35 = .ok (.getfield 56, 3) := by decide +kernel
theorem dX6_readFactWord_38 : decode cX6_readFactWord 38 = .ok (.invokevirtual 59, 3) := by decide +kernel
theorem dX6_readFactWord_41 : decode cX6_readFactWord 41 = .ok (.return_, 1) := by decide +kernel
theorem dX6_mayStand_0 : decode cX6_mayStand 0 = .ok (.iload_n 1, 1) := by decide +kernel
theorem dX6_mayStand_1 : decode cX6_mayStand 1 = .ok (.tableswitch 163 257 274 #[89, 89, 163, 147, 163, 163, 163, 163, 163, 163, 163, 87, 87, 89, 115, 131, 131, 147], 87) := by decide +kernel
theorem dX6_mayStand_88 : decode cX6_mayStand 88 = .ok (.iconst 1, 1) := by decide +kernel
theorem dX6_mayStand_89 : decode cX6_mayStand 89 = .ok (.ireturn, 1) := by decide +kernel
theorem dX6_mayStand_90 : decode cX6_mayStand 90 = .ok (.aload_n 0, 1) := by decide +kernel
theorem dX6_mayStand_91 : decode cX6_mayStand 91 = .ok (.getfield 18, 3) := by decide +kernel
theorem dX6_mayStand_94 : decode cX6_mayStand 94 = .ok (.sipush 261, 3) := by decide +kernel
theorem dX6_mayStand_97 : decode cX6_mayStand 97 = .ok (.if_icmp .eq 13, 3) := by decide +kernel
theorem dX6_mayStand_100 : decode cX6_mayStand 100 = .ok (.aload_n 0, 1) := by decide +kernel
theorem dX6_mayStand_101 : decode cX6_mayStand 101 = .ok (.getfield 18, 3) := by decide +kernel
theorem dX6_mayStand_104 : decode cX6_mayStand 104 = .ok (.sipush 262, 3) := by decide +kernel
theorem dX6_mayStand_107 : decode cX6_mayStand 107 = .ok (.if_icmp .ne 7, 3) := by decide +kernel
theorem dX6_mayStand_110 : decode cX6_mayStand 110 = .ok (.iconst 1, 1) := by decide +kernel
theorem dX6_mayStand_111 : decode cX6_mayStand 111 = .ok (.goto 4, 3) := by decide +kernel
theorem dX6_mayStand_114 : decode cX6_mayStand 114 = .ok (.iconst 0, 1) := by decide +kernel
theorem dX6_mayStand_115 : decode cX6_mayStand 115 = .ok (.ireturn, 1) := by decide +kernel
theorem dX6_mayStand_116 : decode cX6_mayStand 116 = .ok (.aload_n 0, 1) := by decide +kernel
theorem dX6_mayStand_117 : decode cX6_mayStand 117 = .ok (.getfield 18, 3) := by decide +kernel
theorem dX6_mayStand_120 : decode cX6_mayStand 120 = .ok (.sipush 262, 3) := by decide +kernel
theorem dX6_mayStand_123 : decode cX6_mayStand 123 = .ok (.if_icmp .ne 7, 3) := by decide +kernel
theorem dX6_mayStand_126 : decode cX6_mayStand 126 = .ok (.iconst 1, 1) := by decide +kernel
theorem dX6_mayStand_127 : decode cX6_mayStand 127 = .ok (.goto 4, 3) := by decide +kernel
theorem dX6_mayStand_130 : decode cX6_mayStand 130 = .ok (.iconst 0, 1) := by decide +kernel
theorem dX6_mayStand_131 : decode cX6_mayStand 131 = .ok (.ireturn, 1) := by decide +kernel
theorem dX6_mayStand_132 : decode cX6_mayStand 132 = .ok (.aload_n 0, 1) := by decide +kernel
theorem dX6_mayStand_133 : decode cX6_mayStand 133 = .ok (.getfield 18, 3) := by decide +kernel
theorem dX6_mayStand_136 : decode cX6_mayStand 136 = .ok (.sipush 263, 3) := by decide +kernel
theorem dX6_mayStand_139 : decode cX6_mayStand 139 = .ok (.if_icmp .ne 7, 3) := by decide +kernel
theorem dX6_mayStand_142 : decode cX6_mayStand 142 = .ok (.iconst 1, 1) := by decide +kernel
theorem dX6_mayStand_143 : decode cX6_mayStand 143 = .ok (.goto 4, 3) := by decide +kernel
theorem dX6_mayStand_146 : decode cX6_mayStand 146 = .ok (.iconst 0, 1) := by decide +kernel
theorem dX6_mayStand_147 : decode cX6_mayStand 147 = .ok (.ireturn, 1) := by decide +kernel
theorem dX6_mayStand_148 : decode cX6_mayStand 148 = .ok (.aload_n 0, 1) := by decide +kernel
theorem dX6_mayStand_149 : decode cX6_mayStand 149 = .ok (.getfield 18, 3) := by decide +kernel
theorem dX6_mayStand_152 : decode cX6_mayStand 152 = .ok (.sipush 264, 3) := by decide +kernel
theorem dX6_mayStand_155 : decode cX6_mayStand 155 = .ok (.if_icmp .ne 7, 3) := by decide +kernel
theorem dX6_mayStand_158 : decode cX6_mayStand 158 = .ok (.iconst 1, 1) := by decide +kernel
theorem dX6_mayStand_159 : decode cX6_mayStand 159 = .ok (.goto 4, 3) := by decide +kernel
theorem dX6_mayStand_162 : decode cX6_mayStand 162 = .ok (.iconst 0, 1) := by decide +kernel
theorem dX6_mayStand_163 : decode cX6_mayStand 163 = .ok (.ireturn, 1) := by decide +kernel
theorem dX6_mayStand_164 : decode cX6_mayStand 164 = .ok (.iconst 0, 1) := by decide +kernel
theorem dX6_mayStand_165 : decode cX6_mayStand 165 = .ok (.ireturn, 1) := by decide +kernel
theorem dX6_readTest_0 : decode cX6_readTest 0 = .ok (.aload_n 0, 1) := by decide +kernel
theorem dX6_readTest_1 : decode cX6_readTest 1 = .ok (.invokevirtual 169, 3) := by decide +kernel
theorem dX6_readTest_4 : decode cX6_readTest 4 = .ok (.iconst 0, 1) := by decide +kernel
theorem dX6_readTest_5 : decode cX6_readTest 5 = .ok (.istore_n 1, 1) := by decide +kernel
theorem dX6_readTest_6 : decode cX6_readTest 6 = .ok (.iload_n 1, 1) := by decide +kernel
theorem dX6_readTest_7 : decode cX6_readTest 7 = .ok (.sipush 1600, 3) := by decide +kernel
theorem dX6_readTest_10 : decode cX6_readTest 10 = .ok (.if_icmp .ge 43, 3) := by decide +kernel
theorem dX6_readTest_13 : decode cX6_readTest 13 = .ok (.aload_n 0, 1) := by decide +kernel
theorem dX6_readTest_14 : decode cX6_readTest 14 = .ok (.getfield 12, 3) := by decide +kernel
theorem dX6_readTest_17 : decode cX6_readTest 17 = .ok (.getfield 38, 3) := by decide +kernel
theorem dX6_readTest_20 : decode cX6_readTest 20 = .ok (.sipush 276, 3) := by decide +kernel
theorem dX6_readTest_23 : decode cX6_readTest 23 = .ok (.if_icmp .ne 30, 3) := by decide +kernel
theorem dX6_readTest_26 : decode cX6_readTest 26 = .ok (.aload_n 0, 1) := by decide +kernel
theorem dX6_readTest_27 : decode cX6_readTest 27 = .ok (.getfield 12, 3) := by decide +kernel
theorem dX6_readTest_30 : decode cX6_readTest 30 = .ok (.invokevirtual 66, 3) := by decide +kernel
theorem dX6_readTest_33 : decode cX6_readTest 33 = .ok (.aload_n 0, 1) := by decide +kernel
theorem dX6_readTest_34 : decode cX6_readTest 34 = .ok (.invokevirtual 169, 3) := by decide +kernel
theorem dX6_readTest_37 : decode cX6_readTest 37 = .ok (.aload_n 0, 1) := by decide +kernel
theorem dX6_readTest_38 : decode cX6_readTest 38 = .ok (.getfield 25, 3) := by decide +kernel
theorem dX6_readTest_41 : decode cX6_readTest 41 = .ok (.sipush 276, 3) := by decide +kernel
theorem dX6_readTest_44 : decode cX6_readTest 44 = .ok (.invokevirtual 140, 3) := by decide +kernel
theorem dX6_readTest_47 : decode cX6_readTest 47 = .ok (.iinc 1 1, 3) := by decide +kernel
theorem dX6_readTest_50 : decode cX6_readTest 50 = .ok (.goto (-44), 3) := by decide +kernel
theorem dX6_readTest_53 : decode cX6_readTest 53 = .ok (.return_, 1) := by decide +kernel
theorem dX6_readBoth_0 : decode cX6_readBoth 0 = .ok (.aload_n 0, 1) := by decide +kernel
theorem dX6_readBoth_1 : decode cX6_readBoth 1 = .ok (.invokevirtual 172, 3) := by decide +kernel
theorem dX6_readBoth_4 : decode cX6_readBoth 4 = .ok (.iconst 0, 1) := by decide +kernel
theorem dX6_readBoth_5 : decode cX6_readBoth 5 = .ok (.istore_n 1, 1) := by decide +kernel
theorem dX6_readBoth_6 : decode cX6_readBoth 6 = .ok (.iload_n 1, 1) := by decide +kernel
theorem dX6_readBoth_7 : decode cX6_readBoth 7 = .ok (.sipush 1600, 3) := by decide +kernel
theorem dX6_readBoth_10 : decode cX6_readBoth 10 = .ok (.if_icmp .ge 43, 3) := by decide +kernel
theorem dX6_readBoth_13 : decode cX6_readBoth 13 = .ok (.aload_n 0, 1) := by decide +kernel
theorem dX6_readBoth_14 : decode cX6_readBoth 14 = .ok (.getfield 12, 3) := by decide +kernel
theorem dX6_readBoth_17 : decode cX6_readBoth 17 = .ok (.getfield 38, 3) := by decide +kernel
theorem dX6_readBoth_20 : decode cX6_readBoth 20 = .ok (.sipush 277, 3) := by decide +kernel
theorem dX6_readBoth_23 : decode cX6_readBoth 23 = .ok (.if_icmp .ne 30, 3) := by decide +kernel
theorem dX6_readBoth_26 : decode cX6_readBoth 26 = .ok (.aload_n 0, 1) := by decide +kernel
theorem dX6_readBoth_27 : decode cX6_readBoth 27 = .ok (.getfield 12, 3) := by decide +kernel
theorem dX6_readBoth_30 : decode cX6_readBoth 30 = .ok (.invokevirtual 66, 3) := by decide +kernel
theorem dX6_readBoth_33 : decode cX6_readBoth 33 = .ok (.aload_n 0, 1) := by decide +kernel
theorem dX6_readBoth_34 : decode cX6_readBoth 34 = .ok (.invokevirtual 172, 3) := by decide +kernel
theorem dX6_readBoth_37 : decode cX6_readBoth 37 = .ok (.aload_n 0, 1) := by decide +kernel
theorem dX6_readBoth_38 : decode cX6_readBoth 38 = .ok (.getfield 25, 3) := by decide +kernel
theorem dX6_readBoth_41 : decode cX6_readBoth 41 = .ok (.sipush 277, 3) := by decide +kernel
theorem dX6_readBoth_44 : decode cX6_readBoth 44 = .ok (.invokevirtual 140, 3) := by decide +kernel
theorem dX6_readBoth_47 : decode cX6_readBoth 47 = .ok (.iinc 1 1, 3) := by decide +kernel
theorem dX6_readBoth_50 : decode cX6_readBoth 50 = .ok (.goto (-44), 3) := by decide +kernel
theorem dX6_readBoth_53 : decode cX6_readBoth 53 = .ok (.return_, 1) := by decide +kernel
theorem dX6_readFact_0 : decode cX6_readFact 0 = .ok (.aload_n 0, 1) := by decide +kernel
theorem dX6_readFact_1 : decode cX6_readFact 1 = .ok (.getfield 12, 3) := by decide +kernel
theorem dX6_readFact_4 : decode cX6_readFact 4 = .ok (.getfield 38, 3) := by decide +kernel
theorem dX6_readFact_7 : decode cX6_readFact 7 = .ok (.lookupswitch 82 #[(91, 40), (278, 33), (279, 62)], 33) := by decide +kernel
theorem dX6_readFact_40 : decode cX6_readFact 40 = .ok (.aload_n 0, 1) := by decide +kernel
theorem dX6_readFact_41 : decode cX6_readFact 41 = .ok (.invokevirtual 175, 3) := by decide +kernel
theorem dX6_readFact_44 : decode cX6_readFact 44 = .ok (.goto 49, 3) := by decide +kernel
theorem dX6_readFact_47 : decode cX6_readFact 47 = .ok (.aload_n 0, 1) := by decide +kernel
theorem dX6_readFact_48 : decode cX6_readFact 48 = .ok (.bipush 91, 2) := by decide +kernel
theorem dX6_readFact_50 : decode cX6_readFact 50 = .ok (.invokevirtual 160, 3) := by decide +kernel
theorem dX6_readFact_53 : decode cX6_readFact 53 = .ok (.ifCond .eq 40, 3) := by decide +kernel
theorem dX6_readFact_56 : decode cX6_readFact 56 = .ok (.aload_n 0, 1) := by decide +kernel
theorem dX6_readFact_57 : decode cX6_readFact 57 = .ok (.invokevirtual 98, 3) := by decide +kernel
theorem dX6_readFact_60 : decode cX6_readFact 60 = .ok (.aload_n 0, 1) := by decide +kernel
theorem dX6_readFact_61 : decode cX6_readFact 61 = .ok (.bipush 93, 2) := by decide +kernel
theorem dX6_readFact_63 : decode cX6_readFact 63 = .ok (.invokevirtual 163, 3) := by decide +kernel
theorem dX6_readFact_66 : decode cX6_readFact 66 = .ok (.goto 27, 3) := by decide +kernel
theorem dX6_readFact_69 : decode cX6_readFact 69 = .ok (.aload_n 0, 1) := by decide +kernel
theorem dX6_readFact_70 : decode cX6_readFact 70 = .ok (.getfield 25, 3) := by decide +kernel
theorem dX6_readFact_73 : decode cX6_readFact 73 = .ok (.sipush 279, 3) := by decide +kernel
theorem dX6_readFact_76 : decode cX6_readFact 76 = .ok (.invokevirtual 140, 3) := by decide +kernel
theorem dX6_readFact_79 : decode cX6_readFact 79 = .ok (.aload_n 0, 1) := by decide +kernel
theorem dX6_readFact_80 : decode cX6_readFact 80 = .ok (.getfield 12, 3) := by decide +kernel
theorem dX6_readFact_83 : decode cX6_readFact 83 = .ok (.invokevirtual 66, 3) := by decide +kernel
theorem dX6_readFact_86 : decode cX6_readFact 86 = .ok (.goto 7, 3) := by decide +kernel
theorem dX6_readFact_89 : decode cX6_readFact 89 = .ok (.aload_n 0, 1) := by decide +kernel
theorem dX6_readFact_90 : decode cX6_readFact 90 = .ok (.invokevirtual 178, 3) := by decide +kernel
theorem dX6_readFact_93 : decode cX6_readFact 93 = .ok (.return_, 1) := by decide +kernel
theorem dX6_readNot_0 : decode cX6_readNot 0 = .ok (.aload_n 0, 1) := by decide +kernel
theorem dX6_readNot_1 : decode cX6_readNot 1 = .ok (.sipush 278, 3) := by decide +kernel
theorem dX6_readNot_4 : decode cX6_readNot 4 = .ok (.invokevirtual 160, 3) := by decide +kernel
theorem dX6_readNot_7 : decode cX6_readNot 7 = .ok (.ifCond .eq 27, 3) := by decide +kernel
theorem dX6_readNot_10 : decode cX6_readNot 10 = .ok (.aload_n 0, 1) := by decide +kernel
theorem dX6_readNot_11 : decode cX6_readNot 11 = .ok (.invokevirtual 172, 3) := by decide +kernel
theorem dX6_readNot_14 : decode cX6_readNot 14 = .ok (.aload_n 0, 1) := by decide +kernel
theorem dX6_readNot_15 : decode cX6_readNot 15 = .ok (.dup, 1) := by decide +kernel
theorem dX6_readNot_16 : decode cX6_readNot 16 = .ok (.getfield 22, 3) := by decide +kernel
theorem dX6_readNot_19 : decode cX6_readNot 19 = .ok (.iconst 1, 1) := by decide +kernel
theorem dX6_readNot_20 : decode cX6_readNot 20 = .ok (.isub, 1) := by decide +kernel
theorem dX6_readNot_21 : decode cX6_readNot 21 = .ok (.putfield 22, 3) := by decide +kernel
theorem dX6_readNot_24 : decode cX6_readNot 24 = .ok (.aload_n 0, 1) := by decide +kernel
theorem dX6_readNot_25 : decode cX6_readNot 25 = .ok (.getfield 25, 3) := by decide +kernel
theorem dX6_readNot_28 : decode cX6_readNot 28 = .ok (.sipush 278, 3) := by decide +kernel
theorem dX6_readNot_31 : decode cX6_readNot 31 = .ok (.invokevirtual 140, 3) := by decide +kernel
theorem dX6_readNot_34 : decode cX6_readNot 34 = .ok (.return_, 1) := by decide +kernel
theorem dX6_readComparison_0 : decode cX6_readComparison 0 = .ok (.aload_n 0, 1) := by decide +kernel
theorem dX6_readComparison_1 : decode cX6_readComparison 1 = .ok (.invokevirtual 95, 3) := by decide +kernel
theorem dX6_readComparison_4 : decode cX6_readComparison 4 = .ok (.aload_n 0, 1) := by decide +kernel
theorem dX6_readComparison_5 : decode cX6_readComparison 5 = .ok (.getfield 12, 3) := by decide +kernel
theorem dX6_readComparison_8 : decode cX6_readComparison 8 = .ok (.getfield 38, 3) := by decide +kernel
theorem dX6_readComparison_11 : decode cX6_readComparison 11 = .ok (.istore_n 1, 1) := by decide +kernel
theorem dX6_readComparison_12 : decode cX6_readComparison 12 = .ok (.iload_n 1, 1) := by decide +kernel
theorem dX6_readComparison_13 : decode cX6_readComparison 13 = .ok (.bipush 60, 2) := by decide +kernel
theorem dX6_readComparison_15 : decode cX6_readComparison 15 = .ok (.if_icmp .eq 31, 3) := by decide +kernel
theorem dX6_readComparison_18 : decode cX6_readComparison 18 = .ok (.iload_n 1, 1) := by decide +kernel
theorem dX6_readComparison_19 : decode cX6_readComparison 19 = .ok (.bipush 62, 2) := by decide +kernel
theorem dX6_readComparison_21 : decode cX6_readComparison 21 = .ok (.if_icmp .eq 25, 3) := by decide +kernel
theorem dX6_readComparison_24 : decode cX6_readComparison 24 = .ok (.iload_n 1, 1) := by decide +kernel
theorem dX6_readComparison_25 : decode cX6_readComparison 25 = .ok (.bipush 61, 2) := by decide +kernel
theorem dX6_readComparison_27 : decode cX6_readComparison 27 = .ok (.if_icmp .eq 19, 3) := by decide +kernel
theorem dX6_readComparison_30 : decode cX6_readComparison 30 = .ok (.aload_n 0, 1) := by decide +kernel
theorem dX6_readComparison_31 : decode cX6_readComparison 31 = .ok (.getfield 12, 3) := by decide +kernel
theorem dX6_readComparison_34 : decode cX6_readComparison 34 = .ok (.iconst 1, 1) := by decide +kernel
theorem dX6_readComparison_35 : decode cX6_readComparison 35 = .ok (.aload_n 0, 1) := by decide +kernel
theorem dX6_readComparison_36 : decode cX6_readComparison 36 = .ok (.getfield 12, 3) := by decide +kernel
theorem dX6_readComparison_39 : decode cX6_readComparison 39 = .ok (.getfield 56, 3) := by decide +kernel
theorem dX6_readComparison_42 : decode cX6_readComparison 42 = .ok (.invokevirtual 59, 3) := by decide +kernel
theorem dX6_readComparison_45 : decode cX6_readComparison 45 = .ok (.return_, 1) := by decide +kernel
theorem dX6_readComparison_46 : decode cX6_readComparison 46 = .ok (.aload_n 0, 1) := by decide +kernel
theorem dX6_readComparison_47 : decode cX6_readComparison 47 = .ok (.getfield 12, 3) := by decide +kernel
theorem dX6_readComparison_50 : decode cX6_readComparison 50 = .ok (.invokevirtual 66, 3) := by decide +kernel
theorem dX6_readComparison_53 : decode cX6_readComparison 53 = .ok (.aload_n 0, 1) := by decide +kernel
theorem dX6_readComparison_54 : decode cX6_readComparison 54 = .ok (.invokevirtual 95, 3) := by decide +kernel
theorem dX6_readComparison_57 : decode cX6_readComparison 57 = .ok (.aload_n 0, 1) := by decide +kernel
theorem dX6_readComparison_58 : decode cX6_readComparison 58 = .ok (.getfield 25, 3) := by decide +kernel
theorem dX6_readComparison_61 : decode cX6_readComparison 61 = .ok (.iload_n 1, 1) := by decide +kernel
theorem dX6_readComparison_62 : decode cX6_readComparison 62 = .ok (.invokevirtual 140, 3) := by decide +kernel
theorem dX6_readComparison_65 : decode cX6_readComparison 65 = .ok (.return_, 1) := by decide +kernel
theorem dX7_init_0 : decode cX7_init 0 = .ok (.aload_n 0, 1) := by decide +kernel
theorem dX7_init_1 : decode cX7_init 1 = .ok (.invokespecial 3, 3) := by decide +kernel
theorem dX7_init_4 : decode cX7_init 4 = .ok (.aload_n 0, 1) := by decide +kernel
theorem dX7_init_5 : decode cX7_init 5 = .ok (.bipush 26, 2) := by decide +kernel
theorem dX7_init_7 : decode cX7_init 7 = .ok (.newarray .int, 2) := by decide +kernel
theorem dX7_init_9 : decode cX7_init 9 = .ok (.putfield 11, 3) := by decide +kernel
theorem dX7_init_12 : decode cX7_init 12 = .ok (.aload_n 0, 1) := by decide +kernel
theorem dX7_init_13 : decode cX7_init 13 = .ok (.iconst 0, 1) := by decide +kernel
theorem dX7_init_14 : decode cX7_init 14 = .ok (.newarray .byte, 2) := by decide +kernel
theorem dX7_init_16 : decode cX7_init 16 = .ok (.putfield 17, 3) := by decide +kernel
theorem dX7_init_19 : decode cX7_init 19 = .ok (.aload_n 0, 1) := by decide +kernel
theorem dX7_init_20 : decode cX7_init 20 = .ok (.iconst 0, 1) := by decide +kernel
theorem dX7_init_21 : decode cX7_init 21 = .ok (.putfield 21, 3) := by decide +kernel
theorem dX7_init_24 : decode cX7_init 24 = .ok (.aload_n 0, 1) := by decide +kernel
theorem dX7_init_25 : decode cX7_init 25 = .ok (.iconst 0, 1) := by decide +kernel
theorem dX7_init_26 : decode cX7_init 26 = .ok (.putfield 25, 3) := by decide +kernel
theorem dX7_init_29 : decode cX7_init 29 = .ok (.aload_n 0, 1) := by decide +kernel
theorem dX7_init_30 : decode cX7_init 30 = .ok (.sipush 284, 3) := by decide +kernel
theorem dX7_init_33 : decode cX7_init 33 = .ok (.putfield 28, 3) := by decide +kernel
theorem dX7_init_36 : decode cX7_init 36 = .ok (.aload_n 0, 1) := by decide +kernel
theorem dX7_init_37 : decode cX7_init 37 = .ok (.iconst 0, 1) := by decide +kernel
theorem dX7_init_38 : decode cX7_init 38 = .ok (.putfield 31, 3) := by decide +kernel
theorem dX7_init_41 : decode cX7_init 41 = .ok (.aload_n 0, 1) := by decide +kernel
theorem dX7_init_42 : decode cX7_init 42 = .ok (.iconst 0, 1) := by decide +kernel
theorem dX7_init_43 : decode cX7_init 43 = .ok (.putfield 34, 3) := by decide +kernel
theorem dX7_init_46 : decode cX7_init 46 = .ok (.aload_n 0, 1) := by decide +kernel
theorem dX7_init_47 : decode cX7_init 47 = .ok (.iconst 0, 1) := by decide +kernel
theorem dX7_init_48 : decode cX7_init 48 = .ok (.putfield 37, 3) := by decide +kernel
theorem dX7_init_51 : decode cX7_init 51 = .ok (.aload_n 0, 1) := by decide +kernel
theorem dX7_init_52 : decode cX7_init 52 = .ok (.iconst (-1), 1) := by decide +kernel
theorem dX7_init_53 : decode cX7_init 53 = .ok (.putfield 40, 3) := by decide +kernel
theorem dX7_init_56 : decode cX7_init 56 = .ok (.iconst 0, 1) := by decide +kernel
theorem dX7_init_57 : decode cX7_init 57 = .ok (.istore_n 1, 1) := by decide +kernel
theorem dX7_init_58 : decode cX7_init 58 = .ok (.iconst 0, 1) := by decide +kernel
theorem dX7_init_59 : decode cX7_init 59 = .ok (.istore_n 2, 1) := by decide +kernel
theorem dX7_init_60 : decode cX7_init 60 = .ok (.iconst 0, 1) := by decide +kernel
theorem dX7_init_61 : decode cX7_init 61 = .ok (.istore_n 3, 1) := by decide +kernel
theorem dX7_init_62 : decode cX7_init 62 = .ok (.iload_n 3, 1) := by decide +kernel
theorem dX7_init_63 : decode cX7_init 63 = .ok (.ldc 43, 2) := by decide +kernel
theorem dX7_init_65 : decode cX7_init 65 = .ok (.invokevirtual 45, 3) := by decide +kernel
theorem dX7_init_68 : decode cX7_init 68 = .ok (.if_icmp .ge 72, 3) := by decide +kernel
theorem dX7_init_71 : decode cX7_init 71 = .ok (.iload_n 1, 1) := by decide +kernel
theorem dX7_init_72 : decode cX7_init 72 = .ok (.aload_n 0, 1) := by decide +kernel
theorem dX7_init_73 : decode cX7_init 73 = .ok (.getfield 11, 3) := by decide +kernel
theorem dX7_init_76 : decode cX7_init 76 = .ok (.arraylength, 1) := by decide +kernel
theorem dX7_init_77 : decode cX7_init 77 = .ok (.if_icmp .ge 63, 3) := by decide +kernel
theorem dX7_init_80 : decode cX7_init 80 = .ok (.ldc 43, 2) := by decide +kernel
theorem dX7_init_82 : decode cX7_init 82 = .ok (.iload_n 3, 1) := by decide +kernel
theorem dX7_init_83 : decode cX7_init 83 = .ok (.invokevirtual 50, 3) := by decide +kernel
theorem dX7_init_86 : decode cX7_init 86 = .ok (.istore 4, 2) := by decide +kernel
theorem dX7_init_88 : decode cX7_init 88 = .ok (.iload 4, 2) := by decide +kernel
theorem dX7_init_90 : decode cX7_init 90 = .ok (.bipush 32, 2) := by decide +kernel
theorem dX7_init_92 : decode cX7_init 92 = .ok (.if_icmp .ne 11, 3) := by decide +kernel
theorem dX7_init_95 : decode cX7_init 95 = .ok (.iinc 1 1, 3) := by decide +kernel
theorem dX7_init_98 : decode cX7_init 98 = .ok (.iconst 0, 1) := by decide +kernel
theorem dX7_init_99 : decode cX7_init 99 = .ok (.istore_n 2, 1) := by decide +kernel
theorem dX7_init_100 : decode cX7_init 100 = .ok (.goto 34, 3) := by decide +kernel
theorem dX7_init_103 : decode cX7_init 103 = .ok (.iload_n 2, 1) := by decide +kernel
theorem dX7_init_104 : decode cX7_init 104 = .ok (.bipush 6, 2) := by decide +kernel
theorem dX7_init_106 : decode cX7_init 106 = .ok (.if_icmp .ge 28, 3) := by decide +kernel
theorem dX7_init_109 : decode cX7_init 109 = .ok (.aload_n 0, 1) := by decide +kernel
theorem dX7_init_110 : decode cX7_init 110 = .ok (.getfield 11, 3) := by decide +kernel
theorem dX7_init_113 : decode cX7_init 113 = .ok (.iload_n 1, 1) := by decide +kernel
theorem dX7_init_114 : decode cX7_init 114 = .ok (.dup2, 1) := by decide +kernel
theorem dX7_init_115 : decode cX7_init 115 = .ok (.iaload, 1) := by decide +kernel
theorem dX7_init_116 : decode cX7_init 116 = .ok (.iload 4, 2) := by decide +kernel
theorem dX7_init_118 : decode cX7_init 118 = .ok (.bipush 97, 2) := by decide +kernel
theorem dX7_init_120 : decode cX7_init 120 = .ok (.isub, 1) := by decide +kernel
theorem dX7_init_121 : decode cX7_init 121 = .ok (.iconst 1, 1) := by decide +kernel
theorem dX7_init_122 : decode cX7_init 122 = .ok (.iadd, 1) := by decide +kernel
theorem dX7_init_123 : decode cX7_init 123 = .ok (.getstatic 54, 3) := by decide +kernel
