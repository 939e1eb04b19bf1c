theorem dX12_number_43 : decode cX12_number 43 = .ok (.invokestatic 296, 3) := by decide +kernel
theorem dX12_number_46 : decode cX12_number 46 = .ok (.ifCond .ne 12, 3) := by decide +kernel
theorem dX12_number_49 : decode cX12_number 49 = .ok (.aload_n 0, 1) := by decide +kernel
theorem dX12_number_50 : decode cX12_number 50 = .ok (.iconst 4, 1) := by decide +kernel
theorem dX12_number_51 : decode cX12_number 51 = .ok (.aload_n 0, 1) := by decide +kernel
theorem dX12_number_52 : decode cX12_number 52 = .ok (.getfield 23, 3) := by decide +kernel
theorem dX12_number_55 : decode cX12_number 55 = .ok (.invokevirtual 224, 3) := by decide +kernel
theorem dX12_number_58 : decode cX12_number 58 = .ok (.aload_n 0, 1) := by decide +kernel
theorem dX12_number_59 : decode cX12_number 59 = .ok (.getfield 29, 3) := by decide +kernel
theorem dX12_number_62 : decode cX12_number 62 = .ok (.istore_n 3, 1) := by decide +kernel
theorem dX12_number_63 : decode cX12_number 63 = .ok (.aload_n 0, 1) := by decide +kernel
theorem dX12_number_64 : decode cX12_number 64 = .ok (.getfield 36, 3) := by decide +kernel
theorem dX12_number_67 : decode cX12_number 67 = .ok (.ifCond .ne 7, 3) := by decide +kernel
theorem dX12_number_70 : decode cX12_number 70 = .ok (.aload_n 0, 1) := by decide +kernel
theorem dX12_number_71 : decode cX12_number 71 = .ok (.invokevirtual 241, 3) := by decide +kernel
theorem dX12_number_74 : decode cX12_number 74 = .ok (.iload_n 3, 1) := by decide +kernel
theorem dX12_number_75 : decode cX12_number 75 = .ok (.ireturn, 1) := by decide +kernel
theorem dX12_add_0 : decode cX12_add 0 = .ok (.aload_n 0, 1) := by decide +kernel
theorem dX12_add_1 : decode cX12_add 1 = .ok (.getfield 84, 3) := by decide +kernel
theorem dX12_add_4 : decode cX12_add 4 = .ok (.sipush 1600, 3) := by decide +kernel
theorem dX12_add_7 : decode cX12_add 7 = .ok (.aload_n 0, 1) := by decide +kernel
theorem dX12_add_8 : decode cX12_add 8 = .ok (.getfield 100, 3) := by decide +kernel
theorem dX12_add_11 : decode cX12_add 11 = .ok (.imul, 1) := by decide +kernel
theorem dX12_add_12 : decode cX12_add 12 = .ok (.aload_n 0, 1) := by decide +kernel
theorem dX12_add_13 : decode cX12_add 13 = .ok (.getfield 97, 3) := by decide +kernel
theorem dX12_add_16 : decode cX12_add 16 = .ok (.iadd, 1) := by decide +kernel
theorem dX12_add_17 : decode cX12_add 17 = .ok (.iload_n 1, 1) := by decide +kernel
theorem dX12_add_18 : decode cX12_add 18 = .ok (.iastore, 1) := by decide +kernel
theorem dX12_add_19 : decode cX12_add 19 = .ok (.aload_n 0, 1) := by decide +kernel
theorem dX12_add_20 : decode cX12_add 20 = .ok (.getfield 87, 3) := by decide +kernel
theorem dX12_add_23 : decode cX12_add 23 = .ok (.sipush 1600, 3) := by decide +kernel
theorem dX12_add_26 : decode cX12_add 26 = .ok (.aload_n 0, 1) := by decide +kernel
theorem dX12_add_27 : decode cX12_add 27 = .ok (.getfield 100, 3) := by decide +kernel
theorem dX12_add_30 : decode cX12_add 30 = .ok (.imul, 1) := by decide +kernel
theorem dX12_add_31 : decode cX12_add 31 = .ok (.aload_n 0, 1) := by decide +kernel
theorem dX12_add_32 : decode cX12_add 32 = .ok (.getfield 97, 3) := by decide +kernel
theorem dX12_add_35 : decode cX12_add 35 = .ok (.iadd, 1) := by decide +kernel
theorem dX12_add_36 : decode cX12_add 36 = .ok (.iload_n 2, 1) := by decide +kernel
theorem dX12_add_37 : decode cX12_add 37 = .ok (.iastore, 1) := by decide +kernel
theorem dX12_add_38 : decode cX12_add 38 = .ok (.aload_n 0, 1) := by decide +kernel
theorem dX12_add_39 : decode cX12_add 39 = .ok (.dup, 1) := by decide +kernel
theorem dX12_add_40 : decode cX12_add 40 = .ok (.getfield 97, 3) := by decide +kernel
theorem dX12_add_43 : decode cX12_add 43 = .ok (.iconst 1, 1) := by decide +kernel
theorem dX12_add_44 : decode cX12_add 44 = .ok (.iadd, 1) := by decide +kernel
theorem dX12_add_45 : decode cX12_add 45 = .ok (.putfield 97, 3) := by decide +kernel
theorem dX12_add_48 : decode cX12_add 48 = .ok (.return_, 1) := by decide +kernel
theorem dX12_isOf_0 : decode cX12_isOf 0 = .ok (.iload_n 1, 1) := by decide +kernel
theorem dX12_isOf_1 : decode cX12_isOf 1 = .ok (.iconst 5, 1) := by decide +kernel
theorem dX12_isOf_2 : decode cX12_isOf 2 = .ok (.if_icmp .gt 26, 3) := by decide +kernel
theorem dX12_isOf_5 : decode cX12_isOf 5 = .ok (.aload_n 0, 1) := by decide +kernel
theorem dX12_isOf_6 : decode cX12_isOf 6 = .ok (.getfield 103, 3) := by decide +kernel
theorem dX12_isOf_9 : decode cX12_isOf 9 = .ok (.ifCond .eq 11, 3) := by decide +kernel
theorem dX12_isOf_12 : decode cX12_isOf 12 = .ok (.aload_n 0, 1) := by decide +kernel
theorem dX12_isOf_13 : decode cX12_isOf 13 = .ok (.getfield 103, 3) := by decide +kernel
theorem dX12_isOf_16 : decode cX12_isOf 16 = .ok (.iconst 1, 1) := by decide +kernel
theorem dX12_isOf_17 : decode cX12_isOf 17 = .ok (.if_icmp .ne 7, 3) := by decide +kernel
theorem dX12_isOf_20 : decode cX12_isOf 20 = .ok (.iconst 1, 1) := by decide +kernel
theorem dX12_isOf_21 : decode cX12_isOf 21 = .ok (.goto 64, 3) := by decide +kernel
theorem dX12_isOf_24 : decode cX12_isOf 24 = .ok (.iconst 0, 1) := by decide +kernel
theorem dX12_isOf_25 : decode cX12_isOf 25 = .ok (.goto 60, 3) := by decide +kernel
theorem dX12_isOf_28 : decode cX12_isOf 28 = .ok (.iload_n 1, 1) := by decide +kernel
theorem dX12_isOf_29 : decode cX12_isOf 29 = .ok (.bipush 6, 2) := by decide +kernel
theorem dX12_isOf_31 : decode cX12_isOf 31 = .ok (.if_icmp .ne 19, 3) := by decide +kernel
theorem dX12_isOf_34 : decode cX12_isOf 34 = .ok (.aload_n 0, 1) := by decide +kernel
theorem dX12_isOf_35 : decode cX12_isOf 35 = .ok (.getfield 103, 3) := by decide +kernel
theorem dX12_isOf_38 : decode cX12_isOf 38 = .ok (.iconst 1, 1) := by decide +kernel
theorem dX12_isOf_39 : decode cX12_isOf 39 = .ok (.if_icmp .ne 7, 3) := by decide +kernel
theorem dX12_isOf_42 : decode cX12_isOf 42 = .ok (.iconst 1, 1) := by decide +kernel
theorem dX12_isOf_43 : decode cX12_isOf 43 = .ok (.goto 42, 3) := by decide +kernel
theorem dX12_isOf_46 : decode cX12_isOf 46 = .ok (.iconst 0, 1) := by decide +kernel
theorem dX12_isOf_47 : decode cX12_isOf 47 = .ok (.goto 38, 3) := by decide +kernel
theorem dX12_isOf_50 : decode cX12_isOf 50 = .ok (.iload_n 1, 1) := by decide +kernel
theorem dX12_isOf_51 : decode cX12_isOf 51 = .ok (.bipush 8, 2) := by decide +kernel
theorem dX12_isOf_53 : decode cX12_isOf 53 = .ok (.if_icmp .gt 19, 3) := by decide +kernel
theorem dX12_isOf_56 : decode cX12_isOf 56 = .ok (.aload_n 0, 1) := by decide +kernel
theorem dX12_isOf_57 : decode cX12_isOf 57 = .ok (.getfield 103, 3) := by decide +kernel
theorem dX12_isOf_60 : decode cX12_isOf 60 = .ok (.iconst 2, 1) := by decide +kernel
theorem dX12_isOf_61 : decode cX12_isOf 61 = .ok (.if_icmp .ne 7, 3) := by decide +kernel
theorem dX12_isOf_64 : decode cX12_isOf 64 = .ok (.iconst 1, 1) := by decide +kernel
theorem dX12_isOf_65 : decode cX12_isOf 65 = .ok (.goto 20, 3) := by decide +kernel
theorem dX12_isOf_68 : decode cX12_isOf 68 = .ok (.iconst 0, 1) := by decide +kernel
theorem dX12_isOf_69 : decode cX12_isOf 69 = .ok (.goto 16, 3) := by decide +kernel
theorem dX12_isOf_72 : decode cX12_isOf 72 = .ok (.aload_n 0, 1) := by decide +kernel
theorem dX12_isOf_73 : decode cX12_isOf 73 = .ok (.getfield 103, 3) := by decide +kernel
theorem dX12_isOf_76 : decode cX12_isOf 76 = .ok (.iconst 3, 1) := by decide +kernel
theorem dX12_isOf_77 : decode cX12_isOf 77 = .ok (.if_icmp .ne 7, 3) := by decide +kernel
theorem dX12_isOf_80 : decode cX12_isOf 80 = .ok (.iconst 1, 1) := by decide +kernel
theorem dX12_isOf_81 : decode cX12_isOf 81 = .ok (.goto 4, 3) := by decide +kernel
theorem dX12_isOf_84 : decode cX12_isOf 84 = .ok (.iconst 0, 1) := by decide +kernel
theorem dX12_isOf_85 : decode cX12_isOf 85 = .ok (.ireturn, 1) := by decide +kernel
theorem dX12_rank_0 : decode cX12_rank 0 = .ok (.iload_n 0, 1) := by decide +kernel
theorem dX12_rank_1 : decode cX12_rank 1 = .ok (.bipush 42, 2) := by decide +kernel
theorem dX12_rank_3 : decode cX12_rank 3 = .ok (.if_icmp .ne 7, 3) := by decide +kernel
theorem dX12_rank_6 : decode cX12_rank 6 = .ok (.iconst 1, 1) := by decide +kernel
theorem dX12_rank_7 : decode cX12_rank 7 = .ok (.goto 63, 3) := by decide +kernel
theorem dX12_rank_10 : decode cX12_rank 10 = .ok (.iload_n 0, 1) := by decide +kernel
theorem dX12_rank_11 : decode cX12_rank 11 = .ok (.bipush 41, 2) := by decide +kernel
theorem dX12_rank_13 : decode cX12_rank 13 = .ok (.if_icmp .ne 7, 3) := by decide +kernel
theorem dX12_rank_16 : decode cX12_rank 16 = .ok (.iconst 2, 1) := by decide +kernel
theorem dX12_rank_17 : decode cX12_rank 17 = .ok (.goto 53, 3) := by decide +kernel
theorem dX12_rank_20 : decode cX12_rank 20 = .ok (.iload_n 0, 1) := by decide +kernel
theorem dX12_rank_21 : decode cX12_rank 21 = .ok (.bipush 43, 2) := by decide +kernel
theorem dX12_rank_23 : decode cX12_rank 23 = .ok (.if_icmp .ne 7, 3) := by decide +kernel
theorem dX12_rank_26 : decode cX12_rank 26 = .ok (.iconst 3, 1) := by decide +kernel
theorem dX12_rank_27 : decode cX12_rank 27 = .ok (.goto 43, 3) := by decide +kernel
theorem dX12_rank_30 : decode cX12_rank 30 = .ok (.iload_n 0, 1) := by decide +kernel
theorem dX12_rank_31 : decode cX12_rank 31 = .ok (.bipush 38, 2) := by decide +kernel
theorem dX12_rank_33 : decode cX12_rank 33 = .ok (.if_icmp .eq 15, 3) := by decide +kernel
theorem dX12_rank_36 : decode cX12_rank 36 = .ok (.iload_n 0, 1) := by decide +kernel
theorem dX12_rank_37 : decode cX12_rank 37 = .ok (.bipush 39, 2) := by decide +kernel
theorem dX12_rank_39 : decode cX12_rank 39 = .ok (.if_icmp .eq 9, 3) := by decide +kernel
theorem dX12_rank_42 : decode cX12_rank 42 = .ok (.iload_n 0, 1) := by decide +kernel
theorem dX12_rank_43 : decode cX12_rank 43 = .ok (.bipush 40, 2) := by decide +kernel
theorem dX12_rank_45 : decode cX12_rank 45 = .ok (.if_icmp .ne 7, 3) := by decide +kernel
theorem dX12_rank_48 : decode cX12_rank 48 = .ok (.iconst 4, 1) := by decide +kernel
theorem dX12_rank_49 : decode cX12_rank 49 = .ok (.goto 21, 3) := by decide +kernel
theorem dX12_rank_52 : decode cX12_rank 52 = .ok (.iload_n 0, 1) := by decide +kernel
theorem dX12_rank_53 : decode cX12_rank 53 = .ok (.bipush 31, 2) := by decide +kernel
theorem dX12_rank_55 : decode cX12_rank 55 = .ok (.if_icmp .eq 9, 3) := by decide +kernel
theorem dX12_rank_58 : decode cX12_rank 58 = .ok (.iload_n 0, 1) := by decide +kernel
theorem dX12_rank_59 : decode cX12_rank 59 = .ok (.bipush 32, 2) := by decide +kernel
theorem dX12_rank_61 : decode cX12_rank 61 = .ok (.if_icmp .ne 7, 3) := by decide +kernel
theorem dX12_rank_64 : decode cX12_rank 64 = .ok (.iconst 5, 1) := by decide +kernel
theorem dX12_rank_65 : decode cX12_rank 65 = .ok (.goto 5, 3) := by decide +kernel
theorem dX12_rank_68 : decode cX12_rank 68 = .ok (.bipush 6, 2) := by decide +kernel
theorem dX12_rank_70 : decode cX12_rank 70 = .ok (.ireturn, 1) := by decide +kernel
theorem dX12_joins_0 : decode cX12_joins 0 = .ok (.aload_n 0, 1) := by decide +kernel
theorem dX12_joins_1 : decode cX12_joins 1 = .ok (.getfield 131, 3) := by decide +kernel
theorem dX12_joins_4 : decode cX12_joins 4 = .ok (.aload_n 0, 1) := by decide +kernel
theorem dX12_joins_5 : decode cX12_joins 5 = .ok (.getfield 119, 3) := by decide +kernel
theorem dX12_joins_8 : decode cX12_joins 8 = .ok (.aload_n 0, 1) := by decide +kernel
theorem dX12_joins_9 : decode cX12_joins 9 = .ok (.getfield 122, 3) := by decide +kernel
theorem dX12_joins_12 : decode cX12_joins 12 = .ok (.iconst 1, 1) := by decide +kernel
theorem dX12_joins_13 : decode cX12_joins 13 = .ok (.isub, 1) := by decide +kernel
theorem dX12_joins_14 : decode cX12_joins 14 = .ok (.iaload, 1) := by decide +kernel
theorem dX12_joins_15 : decode cX12_joins 15 = .ok (.if_icmp .le 72, 3) := by decide +kernel
theorem dX12_joins_18 : decode cX12_joins 18 = .ok (.aload_n 0, 1) := by decide +kernel
theorem dX12_joins_19 : decode cX12_joins 19 = .ok (.getfield 128, 3) := by decide +kernel
theorem dX12_joins_22 : decode cX12_joins 22 = .ok (.aload_n 0, 1) := by decide +kernel
theorem dX12_joins_23 : decode cX12_joins 23 = .ok (.getfield 131, 3) := by decide +kernel
theorem dX12_joins_26 : decode cX12_joins 26 = .ok (.iconst 1, 1) := by decide +kernel
theorem dX12_joins_27 : decode cX12_joins 27 = .ok (.isub, 1) := by decide +kernel
theorem dX12_joins_28 : decode cX12_joins 28 = .ok (.iaload, 1) := by decide +kernel
theorem dX12_joins_29 : decode cX12_joins 29 = .ok (.invokestatic 300, 3) := by decide +kernel
theorem dX12_joins_32 : decode cX12_joins 32 = .ok (.iload_n 1, 1) := by decide +kernel
theorem dX12_joins_33 : decode cX12_joins 33 = .ok (.if_icmp .lt 54, 3) := by decide +kernel
theorem dX12_joins_36 : decode cX12_joins 36 = .ok (.aload_n 0, 1) := by decide +kernel
theorem dX12_joins_37 : decode cX12_joins 37 = .ok (.dup, 1) := by decide +kernel
theorem dX12_joins_38 : decode cX12_joins 38 = .ok (.getfield 131, 3) := by decide +kernel
theorem dX12_joins_41 : decode cX12_joins 41 = .ok (.iconst 1, 1) := by decide +kernel
theorem dX12_joins_42 : decode cX12_joins 42 = .ok (.isub, 1) := by decide +kernel
theorem dX12_joins_43 : decode cX12_joins 43 = .ok (.putfield 131, 3) := by decide +kernel
theorem dX12_joins_46 : decode cX12_joins 46 = .ok (.aload_n 0, 1) := by decide +kernel
theorem dX12_joins_47 : decode cX12_joins 47 = .ok (.aload_n 0, 1) := by decide +kernel
theorem dX12_joins_48 : decode cX12_joins 48 = .ok (.getfield 128, 3) := by decide +kernel
theorem dX12_joins_51 : decode cX12_joins 51 = .ok (.aload_n 0, 1) := by decide +kernel
theorem dX12_joins_52 : decode cX12_joins 52 = .ok (.getfield 131, 3) := by decide +kernel
theorem dX12_joins_55 : decode cX12_joins 55 = .ok (.iaload, 1) := by decide +kernel
theorem dX12_joins_56 : decode cX12_joins 56 = .ok (.iconst 0, 1) := by decide +kernel
theorem dX12_joins_57 : decode cX12_joins 57 = .ok (.invokevirtual 303, 3) := by decide +kernel
theorem dX12_joins_60 : decode cX12_joins 60 = .ok (.aload_n 0, 1) := by decide +kernel
theorem dX12_joins_61 : decode cX12_joins 61 = .ok (.getfield 128, 3) := by decide +kernel
theorem dX12_joins_64 : decode cX12_joins 64 = .ok (.aload_n 0, 1) := by decide +kernel
theorem dX12_joins_65 : decode cX12_joins 65 = .ok (.getfield 131, 3) := by decide +kernel
theorem dX12_joins_68 : decode cX12_joins 68 = .ok (.iaload, 1) := by decide +kernel
theorem dX12_joins_69 : decode cX12_joins 69 = .ok (.bipush 43, 2) := by decide +kernel
theorem dX12_joins_71 : decode cX12_joins 71 = .ok (.if_icmp .ne (-71), 3) := by decide +kernel
theorem dX12_joins_74 : decode cX12_joins 74 = .ok (.aload_n 0, 1) := by decide +kernel
theorem dX12_joins_75 : decode cX12_joins 75 = .ok (.dup, 1) := by decide +kernel
theorem dX12_joins_76 : decode cX12_joins 76 = .ok (.getfield 125, 3) := by decide +kernel
theorem dX12_joins_79 : decode cX12_joins 79 = .ok (.iconst 1, 1) := by decide +kernel
theorem dX12_joins_80 : decode cX12_joins 80 = .ok (.isub, 1) := by decide +kernel
theorem dX12_joins_81 : decode cX12_joins 81 = .ok (.putfield 125, 3) := by decide +kernel
theorem dX12_joins_84 : decode cX12_joins 84 = .ok (.goto (-84), 3) := by decide +kernel
theorem dX12_joins_87 : decode cX12_joins 87 = .ok (.return_, 1) := by decide +kernel
theorem dX12_holdsBack_0 : decode cX12_holdsBack 0 = .ok (.aload_n 0, 1) := by decide +kernel
theorem dX12_holdsBack_1 : decode cX12_holdsBack 1 = .ok (.getfield 128, 3) := by decide +kernel
theorem dX12_holdsBack_4 : decode cX12_holdsBack 4 = .ok (.aload_n 0, 1) := by decide +kernel
theorem dX12_holdsBack_5 : decode cX12_holdsBack 5 = .ok (.getfield 131, 3) := by decide +kernel
theorem dX12_holdsBack_8 : decode cX12_holdsBack 8 = .ok (.iload_n 1, 1) := by decide +kernel
theorem dX12_holdsBack_9 : decode cX12_holdsBack 9 = .ok (.iastore, 1) := by decide +kernel
theorem dX12_holdsBack_10 : decode cX12_holdsBack 10 = .ok (.aload_n 0, 1) := by decide +kernel
theorem dX12_holdsBack_11 : decode cX12_holdsBack 11 = .ok (.dup, 1) := by decide +kernel
theorem dX12_holdsBack_12 : decode cX12_holdsBack 12 = .ok (.getfield 131, 3) := by decide +kernel
theorem dX12_holdsBack_15 : decode cX12_holdsBack 15 = .ok (.iconst 1, 1) := by decide +kernel
theorem dX12_holdsBack_16 : decode cX12_holdsBack 16 = .ok (.iadd, 1) := by decide +kernel
theorem dX12_holdsBack_17 : decode cX12_holdsBack 17 = .ok (.putfield 131, 3) := by decide +kernel
theorem dX12_holdsBack_20 : decode cX12_holdsBack 20 = .ok (.return_, 1) := by decide +kernel
theorem dX12_pushes_0 : decode cX12_pushes 0 = .ok (.aload_n 0, 1) := by decide +kernel
theorem dX12_pushes_1 : decode cX12_pushes 1 = .ok (.getfield 106, 3) := by decide +kernel
theorem dX12_pushes_4 : decode cX12_pushes 4 = .ok (.aload_n 0, 1) := by decide +kernel
theorem dX12_pushes_5 : decode cX12_pushes 5 = .ok (.getfield 122, 3) := by decide +kernel
theorem dX12_pushes_8 : decode cX12_pushes 8 = .ok (.iload_n 1, 1) := by decide +kernel
theorem dX12_pushes_9 : decode cX12_pushes 9 = .ok (.iastore, 1) := by decide +kernel
theorem dX12_pushes_10 : decode cX12_pushes 10 = .ok (.aload_n 0, 1) := by decide +kernel
theorem dX12_pushes_11 : decode cX12_pushes 11 = .ok (.getfield 109, 3) := by decide +kernel
theorem dX12_pushes_14 : decode cX12_pushes 14 = .ok (.aload_n 0, 1) := by decide +kernel
theorem dX12_pushes_15 : decode cX12_pushes 15 = .ok (.getfield 122, 3) := by decide +kernel
theorem dX12_pushes_18 : decode cX12_pushes 18 = .ok (.iconst 0, 1) := by decide +kernel
theorem dX12_pushes_19 : decode cX12_pushes 19 = .ok (.iastore, 1) := by decide +kernel
theorem dX12_pushes_20 : decode cX12_pushes 20 = .ok (.aload_n 0, 1) := by decide +kernel
theorem dX12_pushes_21 : decode cX12_pushes 21 = .ok (.getfield 112, 3) := by decide +kernel
theorem dX12_pushes_24 : decode cX12_pushes 24 = .ok (.aload_n 0, 1) := by decide +kernel
theorem dX12_pushes_25 : decode cX12_pushes 25 = .ok (.getfield 122, 3) := by decide +kernel
theorem dX12_pushes_28 : decode cX12_pushes 28 = .ok (.iconst 1, 1) := by decide +kernel
theorem dX12_pushes_29 : decode cX12_pushes 29 = .ok (.bastore, 1) := by decide +kernel
theorem dX12_pushes_30 : decode cX12_pushes 30 = .ok (.aload_n 0, 1) := by decide +kernel
theorem dX12_pushes_31 : decode cX12_pushes 31 = .ok (.getfield 119, 3) := by decide +kernel
theorem dX12_pushes_34 : decode cX12_pushes 34 = .ok (.aload_n 0, 1) := by decide +kernel
theorem dX12_pushes_35 : decode cX12_pushes 35 = .ok (.getfield 122, 3) := by decide +kernel
theorem dX12_pushes_38 : decode cX12_pushes 38 = .ok (.aload_n 0, 1) := by decide +kernel
theorem dX12_pushes_39 : decode cX12_pushes 39 = .ok (.getfield 131, 3) := by decide +kernel
theorem dX12_pushes_42 : decode cX12_pushes 42 = .ok (.iastore, 1) := by decide +kernel
theorem dX12_pushes_43 : decode cX12_pushes 43 = .ok (.aload_n 0, 1) := by decide +kernel
theorem dX12_pushes_44 : decode cX12_pushes 44 = .ok (.dup, 1) := by decide +kernel
theorem dX12_pushes_45 : decode cX12_pushes 45 = .ok (.getfield 122, 3) := by decide +kernel
theorem dX12_pushes_48 : decode cX12_pushes 48 = .ok (.iconst 1, 1) := by decide +kernel
theorem dX12_pushes_49 : decode cX12_pushes 49 = .ok (.iadd, 1) := by decide +kernel
theorem dX12_pushes_50 : decode cX12_pushes 50 = .ok (.putfield 122, 3) := by decide +kernel
theorem dX12_pushes_53 : decode cX12_pushes 53 = .ok (.return_, 1) := by decide +kernel
theorem dX12_opens_0 : decode cX12_opens 0 = .ok (.aload_n 0, 1) := by decide +kernel
theorem dX12_opens_1 : decode cX12_opens 1 = .ok (.getfield 125, 3) := by decide +kernel
theorem dX12_opens_4 : decode cX12_opens 4 = .ok (.bipush 7, 2) := by decide +kernel
theorem dX12_opens_6 : decode cX12_opens 6 = .ok (.if_icmp .ne 12, 3) := by decide +kernel
theorem dX12_opens_9 : decode cX12_opens 9 = .ok (.aload_n 0, 1) := by decide +kernel
theorem dX12_opens_10 : decode cX12_opens 10 = .ok (.iconst 5, 1) := by decide +kernel
theorem dX12_opens_11 : decode cX12_opens 11 = .ok (.aload_n 0, 1) := by decide +kernel
theorem dX12_opens_12 : decode cX12_opens 12 = .ok (.getfield 23, 3) := by decide +kernel
theorem dX12_opens_15 : decode cX12_opens 15 = .ok (.invokevirtual 224, 3) := by decide +kernel
theorem dX12_opens_18 : decode cX12_opens 18 = .ok (.aload_n 0, 1) := by decide +kernel
theorem dX12_opens_19 : decode cX12_opens 19 = .ok (.getfield 36, 3) := by decide +kernel
theorem dX12_opens_22 : decode cX12_opens 22 = .ok (.ifCond .le 4, 3) := by decide +kernel
theorem dX12_opens_25 : decode cX12_opens 25 = .ok (.return_, 1) := by decide +kernel
theorem dX12_opens_26 : decode cX12_opens 26 = .ok (.aload_n 0, 1) := by decide +kernel
theorem dX12_opens_27 : decode cX12_opens 27 = .ok (.dup, 1) := by decide +kernel
theorem dX12_opens_28 : decode cX12_opens 28 = .ok (.getfield 125, 3) := by decide +kernel
theorem dX12_opens_31 : decode cX12_opens 31 = .ok (.iconst 1, 1) := by decide +kernel
theorem dX12_opens_32 : decode cX12_opens 32 = .ok (.iadd, 1) := by decide +kernel
theorem dX12_opens_33 : decode cX12_opens 33 = .ok (.putfield 125, 3) := by decide +kernel
theorem dX12_opens_36 : decode cX12_opens 36 = .ok (.aload_n 0, 1) := by decide +kernel
theorem dX12_opens_37 : decode cX12_opens 37 = .ok (.invokevirtual 241, 3) := by decide +kernel
theorem dX12_opens_40 : decode cX12_opens 40 = .ok (.aload_n 0, 1) := by decide +kernel
theorem dX12_opens_41 : decode cX12_opens 41 = .ok (.iload_n 1, 1) := by decide +kernel
theorem dX12_opens_42 : decode cX12_opens 42 = .ok (.invokevirtual 306, 3) := by decide +kernel
theorem dX12_opens_45 : decode cX12_opens 45 = .ok (.return_, 1) := by decide +kernel
theorem dX12_isTest_0 : decode cX12_isTest 0 = .ok (.iload_n 0, 1) := by decide +kernel
theorem dX12_isTest_1 : decode cX12_isTest 1 = .ok (.iconst 1, 1) := by decide +kernel
theorem dX12_isTest_2 : decode cX12_isTest 2 = .ok (.if_icmp .eq 14, 3) := by decide +kernel
theorem dX12_isTest_5 : decode cX12_isTest 5 = .ok (.iload_n 0, 1) := by decide +kernel
theorem dX12_isTest_6 : decode cX12_isTest 6 = .ok (.iconst 5, 1) := by decide +kernel
theorem dX12_isTest_7 : decode cX12_isTest 7 = .ok (.if_icmp .eq 9, 3) := by decide +kernel
theorem dX12_isTest_10 : decode cX12_isTest 10 = .ok (.iload_n 0, 1) := by decide +kernel
theorem dX12_isTest_11 : decode cX12_isTest 11 = .ok (.bipush 6, 2) := by decide +kernel
theorem dX12_isTest_13 : decode cX12_isTest 13 = .ok (.if_icmp .ne 7, 3) := by decide +kernel
theorem dX12_isTest_16 : decode cX12_isTest 16 = .ok (.iconst 1, 1) := by decide +kernel
theorem dX12_isTest_17 : decode cX12_isTest 17 = .ok (.goto 4, 3) := by decide +kernel
theorem dX12_isTest_20 : decode cX12_isTest 20 = .ok (.iconst 0, 1) := by decide +kernel
theorem dX12_isTest_21 : decode cX12_isTest 21 = .ok (.ireturn, 1) := by decide +kernel
theorem dX12_operand_0 : decode cX12_operand 0 = .ok (.aload_n 0, 1) := by decide +kernel
theorem dX12_operand_1 : decode cX12_operand 1 = .ok (.invokevirtual 235, 3) := by decide +kernel
theorem dX12_operand_4 : decode cX12_operand 4 = .ok (.aload_n 0, 1) := by decide +kernel
theorem dX12_operand_5 : decode cX12_operand 5 = .ok (.getfield 36, 3) := by decide +kernel
theorem dX12_operand_8 : decode cX12_operand 8 = .ok (.ifCond .le 5, 3) := by decide +kernel
theorem dX12_operand_11 : decode cX12_operand 11 = .ok (.iconst 1, 1) := by decide +kernel
theorem dX12_operand_12 : decode cX12_operand 12 = .ok (.ireturn, 1) := by decide +kernel
theorem dX12_operand_13 : decode cX12_operand 13 = .ok (.aload_n 0, 1) := by decide +kernel
theorem dX12_operand_14 : decode cX12_operand 14 = .ok (.getfield 122, 3) := by decide +kernel
theorem dX12_operand_17 : decode cX12_operand 17 = .ok (.iconst 1, 1) := by decide +kernel
theorem dX12_operand_18 : decode cX12_operand 18 = .ok (.isub, 1) := by decide +kernel
theorem dX12_operand_19 : decode cX12_operand 19 = .ok (.istore_n 1, 1) := by decide +kernel
theorem dX12_operand_20 : decode cX12_operand 20 = .ok (.aload_n 0, 1) := by decide +kernel
theorem dX12_operand_21 : decode cX12_operand 21 = .ok (.getfield 106, 3) := by decide +kernel
theorem dX12_operand_24 : decode cX12_operand 24 = .ok (.iload_n 1, 1) := by decide +kernel
theorem dX12_operand_25 : decode cX12_operand 25 = .ok (.iaload, 1) := by decide +kernel
theorem dX12_operand_26 : decode cX12_operand 26 = .ok (.invokestatic 309, 3) := by decide +kernel
theorem dX12_operand_29 : decode cX12_operand 29 = .ok (.ifCond .eq 16, 3) := by decide +kernel
theorem dX12_operand_32 : decode cX12_operand 32 = .ok (.aload_n 0, 1) := by decide +kernel
theorem dX12_operand_33 : decode cX12_operand 33 = .ok (.getfield 112, 3) := by decide +kernel
theorem dX12_operand_36 : decode cX12_operand 36 = .ok (.iload_n 1, 1) := by decide +kernel
theorem dX12_operand_37 : decode cX12_operand 37 = .ok (.baload, 1) := by decide +kernel
theorem dX12_operand_38 : decode cX12_operand 38 = .ok (.ifCond .eq 7, 3) := by decide +kernel
theorem dX12_operand_41 : decode cX12_operand 41 = .ok (.iconst 1, 1) := by decide +kernel
theorem dX12_operand_42 : decode cX12_operand 42 = .ok (.goto 4, 3) := by decide +kernel
theorem dX12_operand_45 : decode cX12_operand 45 = .ok (.iconst 0, 1) := by decide +kernel
theorem dX12_operand_46 : decode cX12_operand 46 = .ok (.istore_n 2, 1) := by decide +kernel
theorem dX12_operand_47 : decode cX12_operand 47 = .ok (.iload_n 2, 1) := by decide +kernel
theorem dX12_operand_48 : decode cX12_operand 48 = .ok (.ifCond .eq 62, 3) := by decide +kernel
theorem dX12_operand_51 : decode cX12_operand 51 = .ok (.aload_n 0, 1) := by decide +kernel
theorem dX12_operand_52 : decode cX12_operand 52 = .ok (.ldc2_w 288, 3) := by decide +kernel
theorem dX12_operand_55 : decode cX12_operand 55 = .ok (.invokevirtual 312, 3) := by decide +kernel
theorem dX12_operand_58 : decode cX12_operand 58 = .ok (.ifCond .eq 52, 3) := by decide +kernel
theorem dX12_operand_61 : decode cX12_operand 61 = .ok (.aload_n 0, 1) := by decide +kernel
theorem dX12_operand_62 : decode cX12_operand 62 = .ok (.getfield 125, 3) := by decide +kernel
theorem dX12_operand_65 : decode cX12_operand 65 = .ok (.bipush 7, 2) := by decide +kernel
theorem dX12_operand_67 : decode cX12_operand 67 = .ok (.if_icmp .ne 12, 3) := by decide +kernel
theorem dX12_operand_70 : decode cX12_operand 70 = .ok (.aload_n 0, 1) := by decide +kernel
theorem dX12_operand_71 : decode cX12_operand 71 = .ok (.iconst 5, 1) := by decide +kernel
theorem dX12_operand_72 : decode cX12_operand 72 = .ok (.aload_n 0, 1) := by decide +kernel
theorem dX12_operand_73 : decode cX12_operand 73 = .ok (.getfield 23, 3) := by decide +kernel
theorem dX12_operand_76 : decode cX12_operand 76 = .ok (.invokevirtual 224, 3) := by decide +kernel
theorem dX12_operand_79 : decode cX12_operand 79 = .ok (.aload_n 0, 1) := by decide +kernel
theorem dX12_operand_80 : decode cX12_operand 80 = .ok (.getfield 36, 3) := by decide +kernel
theorem dX12_operand_83 : decode cX12_operand 83 = .ok (.ifCond .le 5, 3) := by decide +kernel
theorem dX12_operand_86 : decode cX12_operand 86 = .ok (.iconst 1, 1) := by decide +kernel
theorem dX12_operand_87 : decode cX12_operand 87 = .ok (.ireturn, 1) := by decide +kernel
theorem dX12_operand_88 : decode cX12_operand 88 = .ok (.aload_n 0, 1) := by decide +kernel
theorem dX12_operand_89 : decode cX12_operand 89 = .ok (.dup, 1) := by decide +kernel
theorem dX12_operand_90 : decode cX12_operand 90 = .ok (.getfield 125, 3) := by decide +kernel
theorem dX12_operand_93 : decode cX12_operand 93 = .ok (.iconst 1, 1) := by decide +kernel
theorem dX12_operand_94 : decode cX12_operand 94 = .ok (.iadd, 1) := by decide +kernel
theorem dX12_operand_95 : decode cX12_operand 95 = .ok (.putfield 125, 3) := by decide +kernel
theorem dX12_operand_98 : decode cX12_operand 98 = .ok (.aload_n 0, 1) := by decide +kernel
theorem dX12_operand_99 : decode cX12_operand 99 = .ok (.bipush 43, 2) := by decide +kernel
theorem dX12_operand_101 : decode cX12_operand 101 = .ok (.invokevirtual 316, 3) := by decide +kernel
theorem dX12_operand_104 : decode cX12_operand 104 = .ok (.aload_n 0, 1) := by decide +kernel
theorem dX12_operand_105 : decode cX12_operand 105 = .ok (.invokevirtual 241, 3) := by decide +kernel
theorem dX12_operand_108 : decode cX12_operand 108 = .ok (.iconst 0, 1) := by decide +kernel
theorem dX12_operand_109 : decode cX12_operand 109 = .ok (.ireturn, 1) := by decide +kernel
theorem dX12_operand_110 : decode cX12_operand 110 = .ok (.aload_n 0, 1) := by decide +kernel
theorem dX12_operand_111 : decode cX12_operand 111 = .ok (.getfield 112, 3) := by decide +kernel
theorem dX12_operand_114 : decode cX12_operand 114 = .ok (.iload_n 1, 1) := by decide +kernel
theorem dX12_operand_115 : decode cX12_operand 115 = .ok (.iconst 0, 1) := by decide +kernel
theorem dX12_operand_116 : decode cX12_operand 116 = .ok (.bastore, 1) := by decide +kernel
theorem dX12_operand_117 : decode cX12_operand 117 = .ok (.iload_n 2, 1) := by decide +kernel
theorem dX12_operand_118 : decode cX12_operand 118 = .ok (.ifCond .eq 19, 3) := by decide +kernel
theorem dX12_operand_121 : decode cX12_operand 121 = .ok (.aload_n 0, 1) := by decide +kernel
theorem dX12_operand_122 : decode cX12_operand 122 = .ok (.bipush 91, 2) := by decide +kernel
theorem dX12_operand_124 : decode cX12_operand 124 = .ok (.invokevirtual 238, 3) := by decide +kernel
theorem dX12_operand_127 : decode cX12_operand 127 = .ok (.ifCond .eq 10, 3) := by decide +kernel
theorem dX12_operand_130 : decode cX12_operand 130 = .ok (.aload_n 0, 1) := by decide +kernel
theorem dX12_operand_131 : decode cX12_operand 131 = .ok (.iconst 5, 1) := by decide +kernel
theorem dX12_operand_132 : decode cX12_operand 132 = .ok (.invokevirtual 319, 3) := by decide +kernel
theorem dX12_operand_135 : decode cX12_operand 135 = .ok (.iconst 0, 1) := by decide +kernel
theorem dX12_operand_136 : decode cX12_operand 136 = .ok (.ireturn, 1) := by decide +kernel
theorem dX12_operand_137 : decode cX12_operand 137 = .ok (.iload_n 2, 1) := by decide +kernel
theorem dX12_operand_138 : decode cX12_operand 138 = .ok (.ifCond .eq 33, 3) := by decide +kernel
theorem dX12_operand_141 : decode cX12_operand 141 = .ok (.aload_n 0, 1) := by decide +kernel
theorem dX12_operand_142 : decode cX12_operand 142 = .ok (.ldc2_w 290, 3) := by decide +kernel
theorem dX12_operand_145 : decode cX12_operand 145 = .ok (.invokevirtual 312, 3) := by decide +kernel
theorem dX12_operand_148 : decode cX12_operand 148 = .ok (.ifCond .eq 23, 3) := by decide +kernel
theorem dX12_operand_151 : decode cX12_operand 151 = .ok (.aload_n 0, 1) := by decide +kernel
theorem dX12_operand_152 : decode cX12_operand 152 = .ok (.bipush 30, 2) := by decide +kernel
theorem dX12_operand_154 : decode cX12_operand 154 = .ok (.iconst 0, 1) := by decide +kernel
theorem dX12_operand_155 : decode cX12_operand 155 = .ok (.invokevirtual 303, 3) := by decide +kernel
theorem dX12_operand_158 : decode cX12_operand 158 = .ok (.aload_n 0, 1) := by decide +kernel
theorem dX12_operand_159 : decode cX12_operand 159 = .ok (.getfield 109, 3) := by decide +kernel
theorem dX12_operand_162 : decode cX12_operand 162 = .ok (.iload_n 1, 1) := by decide +kernel
theorem dX12_operand_163 : decode cX12_operand 163 = .ok (.iconst 2, 1) := by decide +kernel
theorem dX12_operand_164 : decode cX12_operand 164 = .ok (.iastore, 1) := by decide +kernel
theorem dX12_operand_165 : decode cX12_operand 165 = .ok (.aload_n 0, 1) := by decide +kernel
theorem dX12_operand_166 : decode cX12_operand 166 = .ok (.invokevirtual 241, 3) := by decide +kernel
theorem dX12_operand_169 : decode cX12_operand 169 = .ok (.iconst 1, 1) := by decide +kernel
theorem dX12_operand_170 : decode cX12_operand 170 = .ok (.ireturn, 1) := by decide +kernel
theorem dX12_operand_171 : decode cX12_operand 171 = .ok (.aload_n 0, 1) := by decide +kernel
theorem dX12_operand_172 : decode cX12_operand 172 = .ok (.bipush 40, 2) := by decide +kernel
theorem dX12_operand_174 : decode cX12_operand 174 = .ok (.invokevirtual 238, 3) := by decide +kernel
theorem dX12_operand_177 : decode cX12_operand 177 = .ok (.ifCond .eq 10, 3) := by decide +kernel
theorem dX12_operand_180 : decode cX12_operand 180 = .ok (.aload_n 0, 1) := by decide +kernel
theorem dX12_operand_181 : decode cX12_operand 181 = .ok (.iconst 2, 1) := by decide +kernel
theorem dX12_operand_182 : decode cX12_operand 182 = .ok (.invokevirtual 319, 3) := by decide +kernel
theorem dX12_operand_185 : decode cX12_operand 185 = .ok (.iconst 0, 1) := by decide +kernel
theorem dX12_operand_186 : decode cX12_operand 186 = .ok (.ireturn, 1) := by decide +kernel
theorem dX12_operand_187 : decode cX12_operand 187 = .ok (.aload_n 0, 1) := by decide +kernel
theorem dX12_operand_188 : decode cX12_operand 188 = .ok (.ldc2_w 292, 3) := by decide +kernel
theorem dX12_operand_191 : decode cX12_operand 191 = .ok (.invokevirtual 312, 3) := by decide +kernel
theorem dX12_operand_194 : decode cX12_operand 194 = .ok (.ifCond .ne 23, 3) := by decide +kernel
theorem dX12_operand_197 : decode cX12_operand 197 = .ok (.aload_n 0, 1) := by decide +kernel
theorem dX12_operand_198 : decode cX12_operand 198 = .ok (.ldc2_w 294, 3) := by decide +kernel
theorem dX12_operand_201 : decode cX12_operand 201 = .ok (.invokevirtual 312, 3) := by decide +kernel
theorem dX12_operand_204 : decode cX12_operand 204 = .ok (.ifCond .ne 13, 3) := by decide +kernel
theorem dX12_operand_207 : decode cX12_operand 207 = .ok (.aload_n 0, 1) := by decide +kernel
theorem dX12_operand_208 : decode cX12_operand 208 = .ok (.ldc2_w 282, 3) := by decide +kernel
theorem dX12_operand_211 : decode cX12_operand 211 = .ok (.invokevirtual 312, 3) := by decide +kernel
theorem dX12_operand_214 : decode cX12_operand 214 = .ok (.ifCond .eq 99, 3) := by decide +kernel
theorem dX12_operand_217 : decode cX12_operand 217 = .ok (.aload_n 0, 1) := by decide +kernel
theorem dX12_operand_218 : decode cX12_operand 218 = .ok (.ldc2_w 292, 3) := by decide +kernel
theorem dX12_operand_221 : decode cX12_operand 221 = .ok (.invokevirtual 312, 3) := by decide +kernel
theorem dX12_operand_224 : decode cX12_operand 224 = .ok (.ifCond .eq 8, 3) := by decide +kernel
theorem dX12_operand_227 : decode cX12_operand 227 = .ok (.bipush 36, 2) := by decide +kernel
theorem dX12_operand_229 : decode cX12_operand 229 = .ok (.goto 20, 3) := by decide +kernel
theorem dX12_operand_232 : decode cX12_operand 232 = .ok (.aload_n 0, 1) := by decide +kernel
theorem dX12_operand_233 : decode cX12_operand 233 = .ok (.ldc2_w 294, 3) := by decide +kernel
theorem dX12_operand_236 : decode cX12_operand 236 = .ok (.invokevirtual 312, 3) := by decide +kernel
theorem dX12_operand_239 : decode cX12_operand 239 = .ok (.ifCond .eq 8, 3) := by decide +kernel
theorem dX12_operand_242 : decode cX12_operand 242 = .ok (.bipush 37, 2) := by decide +kernel
theorem dX12_operand_244 : decode cX12_operand 244 = .ok (.goto 5, 3) := by decide +kernel
theorem dX12_operand_247 : decode cX12_operand 247 = .ok (.bipush 44, 2) := by decide +kernel
theorem dX12_operand_249 : decode cX12_operand 249 = .ok (.istore_n 3, 1) := by decide +kernel
theorem dX12_operand_250 : decode cX12_operand 250 = .ok (.aload_n 0, 1) := by decide +kernel
theorem dX12_operand_251 : decode cX12_operand 251 = .ok (.invokevirtual 241, 3) := by decide +kernel
theorem dX12_operand_254 : decode cX12_operand 254 = .ok (.aload_n 0, 1) := by decide +kernel
theorem dX12_operand_255 : decode cX12_operand 255 = .ok (.invokevirtual 235, 3) := by decide +kernel
theorem dX12_operand_258 : decode cX12_operand 258 = .ok (.aload_n 0, 1) := by decide +kernel
theorem dX12_operand_259 : decode cX12_operand 259 = .ok (.bipush 40, 2) := by decide +kernel
theorem dX12_operand_261 : decode cX12_operand 261 = .ok (.invokevirtual 238, 3) := by decide +kernel
theorem dX12_operand_264 : decode cX12_operand 264 = .ok (.ifCond .ne 12, 3) := by decide +kernel
theorem dX12_operand_267 : decode cX12_operand 267 = .ok (.aload_n 0, 1) := by decide +kernel
theorem dX12_operand_268 : decode cX12_operand 268 = .ok (.iconst 1, 1) := by decide +kernel
theorem dX12_operand_269 : decode cX12_operand 269 = .ok (.aload_n 0, 1) := by decide +kernel
theorem dX12_operand_270 : decode cX12_operand 270 = .ok (.getfield 23, 3) := by decide +kernel
theorem dX12_operand_273 : decode cX12_operand 273 = .ok (.invokevirtual 224, 3) := by decide +kernel
theorem dX12_operand_276 : decode cX12_operand 276 = .ok (.aload_n 0, 1) := by decide +kernel
theorem dX12_operand_277 : decode cX12_operand 277 = .ok (.iload_n 3, 1) := by decide +kernel
theorem dX12_operand_278 : decode cX12_operand 278 = .ok (.bipush 44, 2) := by decide +kernel
theorem dX12_operand_280 : decode cX12_operand 280 = .ok (.if_icmp .ne 8, 3) := by decide +kernel
theorem dX12_operand_283 : decode cX12_operand 283 = .ok (.bipush 6, 2) := by decide +kernel
theorem dX12_operand_285 : decode cX12_operand 285 = .ok (.goto 4, 3) := by decide +kernel
theorem dX12_operand_288 : decode cX12_operand 288 = .ok (.iconst 3, 1) := by decide +kernel
theorem dX12_operand_289 : decode cX12_operand 289 = .ok (.invokevirtual 319, 3) := by decide +kernel
theorem dX12_operand_292 : decode cX12_operand 292 = .ok (.aload_n 0, 1) := by decide +kernel
theorem dX12_operand_293 : decode cX12_operand 293 = .ok (.getfield 36, 3) := by decide +kernel
theorem dX12_operand_296 : decode cX12_operand 296 = .ok (.ifCond .ne 15, 3) := by decide +kernel
theorem dX12_operand_299 : decode cX12_operand 299 = .ok (.aload_n 0, 1) := by decide +kernel
theorem dX12_operand_300 : decode cX12_operand 300 = .ok (.getfield 116, 3) := by decide +kernel
theorem dX12_operand_303 : decode cX12_operand 303 = .ok (.aload_n 0, 1) := by decide +kernel
theorem dX12_operand_304 : decode cX12_operand 304 = .ok (.getfield 122, 3) := by decide +kernel
theorem dX12_operand_307 : decode cX12_operand 307 = .ok (.iconst 1, 1) := by decide +kernel
theorem dX12_operand_308 : decode cX12_operand 308 = .ok (.isub, 1) := by decide +kernel
theorem dX12_operand_309 : decode cX12_operand 309 = .ok (.iload_n 3, 1) := by decide +kernel
theorem dX12_operand_310 : decode cX12_operand 310 = .ok (.iastore, 1) := by decide +kernel
theorem dX12_operand_311 : decode cX12_operand 311 = .ok (.iconst 0, 1) := by decide +kernel
theorem dX12_operand_312 : decode cX12_operand 312 = .ok (.ireturn, 1) := by decide +kernel
theorem dX12_operand_313 : decode cX12_operand 313 = .ok (.aload_n 0, 1) := by decide +kernel
theorem dX12_operand_314 : decode cX12_operand 314 = .ok (.getfield 20, 3) := by decide +kernel
theorem dX12_operand_317 : decode cX12_operand 317 = .ok (.iconst 2, 1) := by decide +kernel
theorem dX12_operand_318 : decode cX12_operand 318 = .ok (.if_icmp .ne 7, 3) := by decide +kernel
theorem dX12_operand_321 : decode cX12_operand 321 = .ok (.iconst 0, 1) := by decide +kernel
theorem dX12_operand_322 : decode cX12_operand 322 = .ok (.goto 149, 3) := by decide +kernel
theorem dX12_operand_325 : decode cX12_operand 325 = .ok (.aload_n 0, 1) := by decide +kernel
theorem dX12_operand_326 : decode cX12_operand 326 = .ok (.ldc2_w 268, 3) := by decide +kernel
theorem dX12_operand_329 : decode cX12_operand 329 = .ok (.invokevirtual 312, 3) := by decide +kernel
theorem dX12_operand_332 : decode cX12_operand 332 = .ok (.ifCond .eq 7, 3) := by decide +kernel
theorem dX12_operand_335 : decode cX12_operand 335 = .ok (.iconst 1, 1) := by decide +kernel
theorem dX12_operand_336 : decode cX12_operand 336 = .ok (.goto 135, 3) := by decide +kernel
theorem dX12_operand_339 : decode cX12_operand 339 = .ok (.aload_n 0, 1) := by decide +kernel
theorem dX12_operand_340 : decode cX12_operand 340 = .ok (.ldc2_w 270, 3) := by decide +kernel
theorem dX12_operand_343 : decode cX12_operand 343 = .ok (.invokevirtual 312, 3) := by decide +kernel
theorem dX12_operand_346 : decode cX12_operand 346 = .ok (.ifCond .eq 7, 3) := by decide +kernel
theorem dX12_operand_349 : decode cX12_operand 349 = .ok (.iconst 2, 1) := by decide +kernel
theorem dX12_operand_350 : decode cX12_operand 350 = .ok (.goto 121, 3) := by decide +kernel
theorem dX12_operand_353 : decode cX12_operand 353 = .ok (.aload_n 0, 1) := by decide +kernel
theorem dX12_operand_354 : decode cX12_operand 354 = .ok (.ldc2_w 246, 3) := by decide +kernel
theorem dX12_operand_357 : decode cX12_operand 357 = .ok (.invokevirtual 312, 3) := by decide +kernel
theorem dX12_operand_360 : decode cX12_operand 360 = .ok (.ifCond .eq 7, 3) := by decide +kernel
theorem dX12_operand_363 : decode cX12_operand 363 = .ok (.iconst 3, 1) := by decide +kernel
theorem dX12_operand_364 : decode cX12_operand 364 = .ok (.goto 107, 3) := by decide +kernel
theorem dX12_operand_367 : decode cX12_operand 367 = .ok (.aload_n 0, 1) := by decide +kernel
theorem dX12_operand_368 : decode cX12_operand 368 = .ok (.ldc2_w 248, 3) := by decide +kernel
theorem dX12_operand_371 : decode cX12_operand 371 = .ok (.invokevirtual 312, 3) := by decide +kernel
theorem dX12_operand_374 : decode cX12_operand 374 = .ok (.ifCond .eq 7, 3) := by decide +kernel
theorem dX12_operand_377 : decode cX12_operand 377 = .ok (.iconst 4, 1) := by decide +kernel
theorem dX12_operand_378 : decode cX12_operand 378 = .ok (.goto 93, 3) := by decide +kernel
theorem dX12_operand_381 : decode cX12_operand 381 = .ok (.aload_n 0, 1) := by decide +kernel
theorem dX12_operand_382 : decode cX12_operand 382 = .ok (.ldc2_w 272, 3) := by decide +kernel
theorem dX12_operand_385 : decode cX12_operand 385 = .ok (.invokevirtual 312, 3) := by decide +kernel
theorem dX12_operand_388 : decode cX12_operand 388 = .ok (.ifCond .eq 7, 3) := by decide +kernel
theorem dX12_operand_391 : decode cX12_operand 391 = .ok (.iconst 5, 1) := by decide +kernel
theorem dX12_operand_392 : decode cX12_operand 392 = .ok (.goto 79, 3) := by decide +kernel
theorem dX12_operand_395 : decode cX12_operand 395 = .ok (.aload_n 0, 1) := by decide +kernel
theorem dX12_operand_396 : decode cX12_operand 396 = .ok (.ldc2_w 274, 3) := by decide +kernel
theorem dX12_operand_399 : decode cX12_operand 399 = .ok (.invokevirtual 312, 3) := by decide +kernel
theorem dX12_operand_402 : decode cX12_operand 402 = .ok (.ifCond .eq 8, 3) := by decide +kernel
theorem dX12_operand_405 : decode cX12_operand 405 = .ok (.bipush 6, 2) := by decide +kernel
theorem dX12_operand_407 : decode cX12_operand 407 = .ok (.goto 64, 3) := by decide +kernel
theorem dX12_operand_410 : decode cX12_operand 410 = .ok (.aload_n 0, 1) := by decide +kernel
theorem dX12_operand_411 : decode cX12_operand 411 = .ok (.ldc2_w 276, 3) := by decide +kernel
theorem dX12_operand_414 : decode cX12_operand 414 = .ok (.invokevirtual 312, 3) := by decide +kernel
theorem dX12_operand_417 : decode cX12_operand 417 = .ok (.ifCond .eq 8, 3) := by decide +kernel
theorem dX12_operand_420 : decode cX12_operand 420 = .ok (.bipush 7, 2) := by decide +kernel
theorem dX12_operand_422 : decode cX12_operand 422 = .ok (.goto 49, 3) := by decide +kernel
theorem dX12_operand_425 : decode cX12_operand 425 = .ok (.aload_n 0, 1) := by decide +kernel
theorem dX12_operand_426 : decode cX12_operand 426 = .ok (.ldc2_w 278, 3) := by decide +kernel
theorem dX12_operand_429 : decode cX12_operand 429 = .ok (.invokevirtual 312, 3) := by decide +kernel
theorem dX12_operand_432 : decode cX12_operand 432 = .ok (.ifCond .eq 8, 3) := by decide +kernel
theorem dX12_operand_435 : decode cX12_operand 435 = .ok (.bipush 8, 2) := by decide +kernel
theorem dX12_operand_437 : decode cX12_operand 437 = .ok (.goto 34, 3) := by decide +kernel
theorem dX12_operand_440 : decode cX12_operand 440 = .ok (.aload_n 0, 1) := by decide +kernel
theorem dX12_operand_441 : decode cX12_operand 441 = .ok (.ldc2_w 252, 3) := by decide +kernel
theorem dX12_operand_444 : decode cX12_operand 444 = .ok (.invokevirtual 312, 3) := by decide +kernel
theorem dX12_operand_447 : decode cX12_operand 447 = .ok (.ifCond .eq 8, 3) := by decide +kernel
theorem dX12_operand_450 : decode cX12_operand 450 = .ok (.bipush 9, 2) := by decide +kernel
theorem dX12_operand_452 : decode cX12_operand 452 = .ok (.goto 19, 3) := by decide +kernel
theorem dX12_operand_455 : decode cX12_operand 455 = .ok (.aload_n 0, 1) := by decide +kernel
theorem dX12_operand_456 : decode cX12_operand 456 = .ok (.ldc2_w 280, 3) := by decide +kernel
theorem dX12_operand_459 : decode cX12_operand 459 = .ok (.invokevirtual 312, 3) := by decide +kernel
theorem dX12_operand_462 : decode cX12_operand 462 = .ok (.ifCond .eq 8, 3) := by decide +kernel
theorem dX12_operand_465 : decode cX12_operand 465 = .ok (.bipush 10, 2) := by decide +kernel
theorem dX12_operand_467 : decode cX12_operand 467 = .ok (.goto 4, 3) := by decide +kernel
theorem dX12_operand_470 : decode cX12_operand 470 = .ok (.iconst (-1), 1) := by decide +kernel
theorem dX12_operand_471 : decode cX12_operand 471 = .ok (.istore_n 3, 1) := by decide +kernel
theorem dX12_operand_472 : decode cX12_operand 472 = .ok (.iload_n 3, 1) := by decide +kernel
theorem dX12_operand_473 : decode cX12_operand 473 = .ok (.iconst 2, 1) := by decide +kernel
theorem dX12_operand_474 : decode cX12_operand 474 = .ok (.if_icmp .le 13, 3) := by decide +kernel
theorem dX12_operand_477 : decode cX12_operand 477 = .ok (.aload_n 0, 1) := by decide +kernel
theorem dX12_operand_478 : decode cX12_operand 478 = .ok (.iload_n 3, 1) := by decide +kernel
theorem dX12_operand_479 : decode cX12_operand 479 = .ok (.invokevirtual 322, 3) := by decide +kernel
theorem dX12_operand_482 : decode cX12_operand 482 = .ok (.ifCond .ne 5, 3) := by decide +kernel
theorem dX12_operand_485 : decode cX12_operand 485 = .ok (.iconst (-1), 1) := by decide +kernel
theorem dX12_operand_486 : decode cX12_operand 486 = .ok (.istore_n 3, 1) := by decide +kernel
theorem dX12_operand_487 : decode cX12_operand 487 = .ok (.iload_n 3, 1) := by decide +kernel
theorem dX12_operand_488 : decode cX12_operand 488 = .ok (.iconst (-1), 1) := by decide +kernel
theorem dX12_operand_489 : decode cX12_operand 489 = .ok (.if_icmp .ne 12, 3) := by decide +kernel
theorem dX12_operand_492 : decode cX12_operand 492 = .ok (.aload_n 0, 1) := by decide +kernel
theorem dX12_operand_493 : decode cX12_operand 493 = .ok (.iconst 1, 1) := by decide +kernel
theorem dX12_operand_494 : decode cX12_operand 494 = .ok (.aload_n 0, 1) := by decide +kernel
theorem dX12_operand_495 : decode cX12_operand 495 = .ok (.getfield 23, 3) := by decide +kernel
theorem dX12_operand_498 : decode cX12_operand 498 = .ok (.invokevirtual 224, 3) := by decide +kernel
theorem dX12_operand_501 : decode cX12_operand 501 = .ok (.aload_n 0, 1) := by decide +kernel
theorem dX12_operand_502 : decode cX12_operand 502 = .ok (.getfield 36, 3) := by decide +kernel
theorem dX12_operand_505 : decode cX12_operand 505 = .ok (.ifCond .le 5, 3) := by decide +kernel
theorem dX12_operand_508 : decode cX12_operand 508 = .ok (.iconst 1, 1) := by decide +kernel
theorem dX12_operand_509 : decode cX12_operand 509 = .ok (.ireturn, 1) := by decide +kernel
theorem dX12_operand_510 : decode cX12_operand 510 = .ok (.aload_n 0, 1) := by decide +kernel
theorem dX12_operand_511 : decode cX12_operand 511 = .ok (.iload_n 3, 1) := by decide +kernel
theorem dX12_operand_512 : decode cX12_operand 512 = .ok (.aload_n 0, 1) := by decide +kernel
theorem dX12_operand_513 : decode cX12_operand 513 = .ok (.getfield 29, 3) := by decide +kernel
theorem dX12_operand_516 : decode cX12_operand 516 = .ok (.invokevirtual 303, 3) := by decide +kernel
theorem dX12_operand_519 : decode cX12_operand 519 = .ok (.aload_n 0, 1) := by decide +kernel
theorem dX12_operand_520 : decode cX12_operand 520 = .ok (.invokevirtual 241, 3) := by decide +kernel
theorem dX12_operand_523 : decode cX12_operand 523 = .ok (.iconst 1, 1) := by decide +kernel
theorem dX12_operand_524 : decode cX12_operand 524 = .ok (.ireturn, 1) := by decide +kernel
theorem dX12_goesOn_0 : decode cX12_goesOn 0 = .ok (.aload_n 0, 1) := by decide +kernel
theorem dX12_goesOn_1 : decode cX12_goesOn 1 = .ok (.invokevirtual 235, 3) := by decide +kernel
theorem dX12_goesOn_4 : decode cX12_goesOn 4 = .ok (.aload_n 0, 1) := by decide +kernel
theorem dX12_goesOn_5 : decode cX12_goesOn 5 = .ok (.getfield 36, 3) := by decide +kernel
theorem dX12_goesOn_8 : decode cX12_goesOn 8 = .ok (.ifCond .le 5, 3) := by decide +kernel
theorem dX12_goesOn_11 : decode cX12_goesOn 11 = .ok (.iconst 0, 1) := by decide +kernel
theorem dX12_goesOn_12 : decode cX12_goesOn 12 = .ok (.ireturn, 1) := by decide +kernel
theorem dX12_goesOn_13 : decode cX12_goesOn 13 = .ok (.aload_n 0, 1) := by decide +kernel
theorem dX12_goesOn_14 : decode cX12_goesOn 14 = .ok (.getfield 122, 3) := by decide +kernel
theorem dX12_goesOn_17 : decode cX12_goesOn 17 = .ok (.iconst 1, 1) := by decide +kernel
theorem dX12_goesOn_18 : decode cX12_goesOn 18 = .ok (.isub, 1) := by decide +kernel
theorem dX12_goesOn_19 : decode cX12_goesOn 19 = .ok (.istore_n 1, 1) := by decide +kernel
theorem dX12_goesOn_20 : decode cX12_goesOn 20 = .ok (.aload_n 0, 1) := by decide +kernel
theorem dX12_goesOn_21 : decode cX12_goesOn 21 = .ok (.getfield 106, 3) := by decide +kernel
theorem dX12_goesOn_24 : decode cX12_goesOn 24 = .ok (.iload_n 1, 1) := by decide +kernel
theorem dX12_goesOn_25 : decode cX12_goesOn 25 = .ok (.iaload, 1) := by decide +kernel
theorem dX12_goesOn_26 : decode cX12_goesOn 26 = .ok (.istore_n 2, 1) := by decide +kernel
theorem dX12_goesOn_27 : decode cX12_goesOn 27 = .ok (.iload_n 2, 1) := by decide +kernel
theorem dX12_goesOn_28 : decode cX12_goesOn 28 = .ok (.invokestatic 309, 3) := by decide +kernel
theorem dX12_goesOn_31 : decode cX12_goesOn 31 = .ok (.istore_n 3, 1) := by decide +kernel
theorem dX12_goesOn_32 : decode cX12_goesOn 32 = .ok (.aload_n 0, 1) := by decide +kernel
theorem dX12_goesOn_33 : decode cX12_goesOn 33 = .ok (.getfield 109, 3) := by decide +kernel
theorem dX12_goesOn_36 : decode cX12_goesOn 36 = .ok (.iload_n 1, 1) := by decide +kernel
theorem dX12_goesOn_37 : decode cX12_goesOn 37 = .ok (.iaload, 1) := by decide +kernel
theorem dX12_goesOn_38 : decode cX12_goesOn 38 = .ok (.iconst 2, 1) := by decide +kernel
theorem dX12_goesOn_39 : decode cX12_goesOn 39 = .ok (.if_icmp .ge 149, 3) := by decide +kernel
theorem dX12_goesOn_42 : decode cX12_goesOn 42 = .ok (.aload_n 0, 1) := by decide +kernel
theorem dX12_goesOn_43 : decode cX12_goesOn 43 = .ok (.bipush 43, 2) := by decide +kernel
theorem dX12_goesOn_45 : decode cX12_goesOn 45 = .ok (.invokevirtual 238, 3) := by decide +kernel
theorem dX12_goesOn_48 : decode cX12_goesOn 48 = .ok (.ifCond .ne 39, 3) := by decide +kernel
theorem dX12_goesOn_51 : decode cX12_goesOn 51 = .ok (.aload_n 0, 1) := by decide +kernel
theorem dX12_goesOn_52 : decode cX12_goesOn 52 = .ok (.bipush 45, 2) := by decide +kernel
theorem dX12_goesOn_54 : decode cX12_goesOn 54 = .ok (.invokevirtual 238, 3) := by decide +kernel
theorem dX12_goesOn_57 : decode cX12_goesOn 57 = .ok (.ifCond .ne 30, 3) := by decide +kernel
theorem dX12_goesOn_60 : decode cX12_goesOn 60 = .ok (.aload_n 0, 1) := by decide +kernel
theorem dX12_goesOn_61 : decode cX12_goesOn 61 = .ok (.bipush 42, 2) := by decide +kernel
theorem dX12_goesOn_63 : decode cX12_goesOn 63 = .ok (.invokevirtual 238, 3) := by decide +kernel
theorem dX12_goesOn_66 : decode cX12_goesOn 66 = .ok (.ifCond .ne 21, 3) := by decide +kernel
theorem dX12_goesOn_69 : decode cX12_goesOn 69 = .ok (.aload_n 0, 1) := by decide +kernel
theorem dX12_goesOn_70 : decode cX12_goesOn 70 = .ok (.bipush 47, 2) := by decide +kernel
theorem dX12_goesOn_72 : decode cX12_goesOn 72 = .ok (.invokevirtual 238, 3) := by decide +kernel
theorem dX12_goesOn_75 : decode cX12_goesOn 75 = .ok (.ifCond .ne 12, 3) := by decide +kernel
theorem dX12_goesOn_78 : decode cX12_goesOn 78 = .ok (.aload_n 0, 1) := by decide +kernel
theorem dX12_goesOn_79 : decode cX12_goesOn 79 = .ok (.bipush 37, 2) := by decide +kernel
theorem dX12_goesOn_81 : decode cX12_goesOn 81 = .ok (.invokevirtual 238, 3) := by decide +kernel
theorem dX12_goesOn_84 : decode cX12_goesOn 84 = .ok (.ifCond .eq 104, 3) := by decide +kernel
theorem dX12_goesOn_87 : decode cX12_goesOn 87 = .ok (.aload_n 0, 1) := by decide +kernel
theorem dX12_goesOn_88 : decode cX12_goesOn 88 = .ok (.aload_n 0, 1) := by decide +kernel
theorem dX12_goesOn_89 : decode cX12_goesOn 89 = .ok (.bipush 43, 2) := by decide +kernel
theorem dX12_goesOn_91 : decode cX12_goesOn 91 = .ok (.invokevirtual 238, 3) := by decide +kernel
theorem dX12_goesOn_94 : decode cX12_goesOn 94 = .ok (.ifCond .ne 12, 3) := by decide +kernel
theorem dX12_goesOn_97 : decode cX12_goesOn 97 = .ok (.aload_n 0, 1) := by decide +kernel
theorem dX12_goesOn_98 : decode cX12_goesOn 98 = .ok (.bipush 45, 2) := by decide +kernel
theorem dX12_goesOn_100 : decode cX12_goesOn 100 = .ok (.invokevirtual 238, 3) := by decide +kernel
theorem dX12_goesOn_103 : decode cX12_goesOn 103 = .ok (.ifCond .eq 7, 3) := by decide +kernel
theorem dX12_goesOn_106 : decode cX12_goesOn 106 = .ok (.iconst 5, 1) := by decide +kernel
theorem dX12_goesOn_107 : decode cX12_goesOn 107 = .ok (.goto 5, 3) := by decide +kernel
theorem dX12_goesOn_110 : decode cX12_goesOn 110 = .ok (.bipush 6, 2) := by decide +kernel
theorem dX12_goesOn_112 : decode cX12_goesOn 112 = .ok (.invokevirtual 325, 3) := by decide +kernel
theorem dX12_goesOn_115 : decode cX12_goesOn 115 = .ok (.aload_n 0, 1) := by decide +kernel
theorem dX12_goesOn_116 : decode cX12_goesOn 116 = .ok (.aload_n 0, 1) := by decide +kernel
theorem dX12_goesOn_117 : decode cX12_goesOn 117 = .ok (.bipush 43, 2) := by decide +kernel
theorem dX12_goesOn_119 : decode cX12_goesOn 119 = .ok (.invokevirtual 238, 3) := by decide +kernel
theorem dX12_goesOn_122 : decode cX12_goesOn 122 = .ok (.ifCond .eq 8, 3) := by decide +kernel
theorem dX12_goesOn_125 : decode cX12_goesOn 125 = .ok (.bipush 31, 2) := by decide +kernel
theorem dX12_goesOn_127 : decode cX12_goesOn 127 = .ok (.goto 47, 3) := by decide +kernel
theorem dX12_goesOn_130 : decode cX12_goesOn 130 = .ok (.aload_n 0, 1) := by decide +kernel
theorem dX12_goesOn_131 : decode cX12_goesOn 131 = .ok (.bipush 45, 2) := by decide +kernel
theorem dX12_goesOn_133 : decode cX12_goesOn 133 = .ok (.invokevirtual 238, 3) := by decide +kernel
theorem dX12_goesOn_136 : decode cX12_goesOn 136 = .ok (.ifCond .eq 8, 3) := by decide +kernel
theorem dX12_goesOn_139 : decode cX12_goesOn 139 = .ok (.bipush 32, 2) := by decide +kernel
theorem dX12_goesOn_141 : decode cX12_goesOn 141 = .ok (.goto 33, 3) := by decide +kernel
theorem dX12_goesOn_144 : decode cX12_goesOn 144 = .ok (.aload_n 0, 1) := by decide +kernel
theorem dX12_goesOn_145 : decode cX12_goesOn 145 = .ok (.bipush 42, 2) := by decide +kernel
theorem dX12_goesOn_147 : decode cX12_goesOn 147 = .ok (.invokevirtual 238, 3) := by decide +kernel
theorem dX12_goesOn_150 : decode cX12_goesOn 150 = .ok (.ifCond .eq 8, 3) := by decide +kernel
theorem dX12_goesOn_153 : decode cX12_goesOn 153 = .ok (.bipush 33, 2) := by decide +kernel
theorem dX12_goesOn_155 : decode cX12_goesOn 155 = .ok (.goto 19, 3) := by decide +kernel
theorem dX12_goesOn_158 : decode cX12_goesOn 158 = .ok (.aload_n 0, 1) := by decide +kernel
theorem dX12_goesOn_159 : decode cX12_goesOn 159 = .ok (.bipush 47, 2) := by decide +kernel
theorem dX12_goesOn_161 : decode cX12_goesOn 161 = .ok (.invokevirtual 238, 3) := by decide +kernel
theorem dX12_goesOn_164 : decode cX12_goesOn 164 = .ok (.ifCond .eq 8, 3) := by decide +kernel
theorem dX12_goesOn_167 : decode cX12_goesOn 167 = .ok (.bipush 34, 2) := by decide +kernel
theorem dX12_goesOn_169 : decode cX12_goesOn 169 = .ok (.goto 5, 3) := by decide +kernel
theorem dX12_goesOn_172 : decode cX12_goesOn 172 = .ok (.bipush 35, 2) := by decide +kernel
theorem dX12_goesOn_174 : decode cX12_goesOn 174 = .ok (.invokevirtual 316, 3) := by decide +kernel
theorem dX12_goesOn_177 : decode cX12_goesOn 177 = .ok (.aload_n 0, 1) := by decide +kernel
theorem dX12_goesOn_178 : decode cX12_goesOn 178 = .ok (.invokevirtual 241, 3) := by decide +kernel
theorem dX12_goesOn_181 : decode cX12_goesOn 181 = .ok (.aload_n 0, 1) := by decide +kernel
theorem dX12_goesOn_182 : decode cX12_goesOn 182 = .ok (.iconst 0, 1) := by decide +kernel
theorem dX12_goesOn_183 : decode cX12_goesOn 183 = .ok (.putfield 134, 3) := by decide +kernel
theorem dX12_goesOn_186 : decode cX12_goesOn 186 = .ok (.iconst 1, 1) := by decide +kernel
theorem dX12_goesOn_187 : decode cX12_goesOn 187 = .ok (.ireturn, 1) := by decide +kernel
theorem dX12_goesOn_188 : decode cX12_goesOn 188 = .ok (.iload_n 3, 1) := by decide +kernel
theorem dX12_goesOn_189 : decode cX12_goesOn 189 = .ok (.ifCond .eq 96, 3) := by decide +kernel
theorem dX12_goesOn_192 : decode cX12_goesOn 192 = .ok (.aload_n 0, 1) := by decide +kernel
theorem dX12_goesOn_193 : decode cX12_goesOn 193 = .ok (.getfield 109, 3) := by decide +kernel
theorem dX12_goesOn_196 : decode cX12_goesOn 196 = .ok (.iload_n 1, 1) := by decide +kernel
theorem dX12_goesOn_197 : decode cX12_goesOn 197 = .ok (.iaload, 1) := by decide +kernel
theorem dX12_goesOn_198 : decode cX12_goesOn 198 = .ok (.ifCond .ne 87, 3) := by decide +kernel
theorem dX12_goesOn_201 : decode cX12_goesOn 201 = .ok (.aload_n 0, 1) := by decide +kernel
theorem dX12_goesOn_202 : decode cX12_goesOn 202 = .ok (.bipush 60, 2) := by decide +kernel
theorem dX12_goesOn_204 : decode cX12_goesOn 204 = .ok (.invokevirtual 238, 3) := by decide +kernel
theorem dX12_goesOn_207 : decode cX12_goesOn 207 = .ok (.ifCond .ne 21, 3) := by decide +kernel
theorem dX12_goesOn_210 : decode cX12_goesOn 210 = .ok (.aload_n 0, 1) := by decide +kernel
theorem dX12_goesOn_211 : decode cX12_goesOn 211 = .ok (.bipush 62, 2) := by decide +kernel
theorem dX12_goesOn_213 : decode cX12_goesOn 213 = .ok (.invokevirtual 238, 3) := by decide +kernel
theorem dX12_goesOn_216 : decode cX12_goesOn 216 = .ok (.ifCond .ne 12, 3) := by decide +kernel
theorem dX12_goesOn_219 : decode cX12_goesOn 219 = .ok (.aload_n 0, 1) := by decide +kernel
theorem dX12_goesOn_220 : decode cX12_goesOn 220 = .ok (.bipush 61, 2) := by decide +kernel
theorem dX12_goesOn_222 : decode cX12_goesOn 222 = .ok (.invokevirtual 238, 3) := by decide +kernel
theorem dX12_goesOn_225 : decode cX12_goesOn 225 = .ok (.ifCond .eq 60, 3) := by decide +kernel
theorem dX12_goesOn_228 : decode cX12_goesOn 228 = .ok (.aload_n 0, 1) := by decide +kernel
theorem dX12_goesOn_229 : decode cX12_goesOn 229 = .ok (.iconst 5, 1) := by decide +kernel
theorem dX12_goesOn_230 : decode cX12_goesOn 230 = .ok (.invokevirtual 325, 3) := by decide +kernel
theorem dX12_goesOn_233 : decode cX12_goesOn 233 = .ok (.aload_n 0, 1) := by decide +kernel
theorem dX12_goesOn_234 : decode cX12_goesOn 234 = .ok (.aload_n 0, 1) := by decide +kernel
theorem dX12_goesOn_235 : decode cX12_goesOn 235 = .ok (.bipush 60, 2) := by decide +kernel
theorem dX12_goesOn_237 : decode cX12_goesOn 237 = .ok (.invokevirtual 238, 3) := by decide +kernel
theorem dX12_goesOn_240 : decode cX12_goesOn 240 = .ok (.ifCond .eq 8, 3) := by decide +kernel
theorem dX12_goesOn_243 : decode cX12_goesOn 243 = .ok (.bipush 38, 2) := by decide +kernel
theorem dX12_goesOn_245 : decode cX12_goesOn 245 = .ok (.goto 19, 3) := by decide +kernel
theorem dX12_goesOn_248 : decode cX12_goesOn 248 = .ok (.aload_n 0, 1) := by decide +kernel
theorem dX12_goesOn_249 : decode cX12_goesOn 249 = .ok (.bipush 62, 2) := by decide +kernel
theorem dX12_goesOn_251 : decode cX12_goesOn 251 = .ok (.invokevirtual 238, 3) := by decide +kernel
theorem dX12_goesOn_254 : decode cX12_goesOn 254 = .ok (.ifCond .eq 8, 3) := by decide +kernel
theorem dX12_goesOn_257 : decode cX12_goesOn 257 = .ok (.bipush 39, 2) := by decide +kernel
theorem dX12_goesOn_259 : decode cX12_goesOn 259 = .ok (.goto 5, 3) := by decide +kernel
theorem dX12_goesOn_262 : decode cX12_goesOn 262 = .ok (.bipush 40, 2) := by decide +kernel
theorem dX12_goesOn_264 : decode cX12_goesOn 264 = .ok (.invokevirtual 316, 3) := by decide +kernel
theorem dX12_goesOn_267 : decode cX12_goesOn 267 = .ok (.aload_n 0, 1) := by decide +kernel
theorem dX12_goesOn_268 : decode cX12_goesOn 268 = .ok (.getfield 109, 3) := by decide +kernel
theorem dX12_goesOn_271 : decode cX12_goesOn 271 = .ok (.iload_n 1, 1) := by decide +kernel
theorem dX12_goesOn_272 : decode cX12_goesOn 272 = .ok (.iconst 1, 1) := by decide +kernel
theorem dX12_goesOn_273 : decode cX12_goesOn 273 = .ok (.iastore, 1) := by decide +kernel
theorem dX12_goesOn_274 : decode cX12_goesOn 274 = .ok (.aload_n 0, 1) := by decide +kernel
theorem dX12_goesOn_275 : decode cX12_goesOn 275 = .ok (.invokevirtual 241, 3) := by decide +kernel
theorem dX12_goesOn_278 : decode cX12_goesOn 278 = .ok (.aload_n 0, 1) := by decide +kernel
theorem dX12_goesOn_279 : decode cX12_goesOn 279 = .ok (.iconst 0, 1) := by decide +kernel
theorem dX12_goesOn_280 : decode cX12_goesOn 280 = .ok (.putfield 134, 3) := by decide +kernel
theorem dX12_goesOn_283 : decode cX12_goesOn 283 = .ok (.iconst 1, 1) := by decide +kernel
theorem dX12_goesOn_284 : decode cX12_goesOn 284 = .ok (.ireturn, 1) := by decide +kernel
theorem dX12_goesOn_285 : decode cX12_goesOn 285 = .ok (.iload_n 3, 1) := by decide +kernel
theorem dX12_goesOn_286 : decode cX12_goesOn 286 = .ok (.ifCond .eq 114, 3) := by decide +kernel
theorem dX12_goesOn_289 : decode cX12_goesOn 289 = .ok (.aload_n 0, 1) := by decide +kernel
theorem dX12_goesOn_290 : decode cX12_goesOn 290 = .ok (.ldc2_w 286, 3) := by decide +kernel
theorem dX12_goesOn_293 : decode cX12_goesOn 293 = .ok (.invokevirtual 312, 3) := by decide +kernel
theorem dX12_goesOn_296 : decode cX12_goesOn 296 = .ok (.ifCond .ne 13, 3) := by decide +kernel
theorem dX12_goesOn_299 : decode cX12_goesOn 299 = .ok (.aload_n 0, 1) := by decide +kernel
theorem dX12_goesOn_300 : decode cX12_goesOn 300 = .ok (.ldc2_w 284, 3) := by decide +kernel
theorem dX12_goesOn_303 : decode cX12_goesOn 303 = .ok (.invokevirtual 312, 3) := by decide +kernel
theorem dX12_goesOn_306 : decode cX12_goesOn 306 = .ok (.ifCond .eq 94, 3) := by decide +kernel
theorem dX12_goesOn_309 : decode cX12_goesOn 309 = .ok (.aload_n 0, 1) := by decide +kernel
theorem dX12_goesOn_310 : decode cX12_goesOn 310 = .ok (.getfield 109, 3) := by decide +kernel
theorem dX12_goesOn_313 : decode cX12_goesOn 313 = .ok (.iload_n 1, 1) := by decide +kernel
theorem dX12_goesOn_314 : decode cX12_goesOn 314 = .ok (.iaload, 1) := by decide +kernel
theorem dX12_goesOn_315 : decode cX12_goesOn 315 = .ok (.ifCond .ne 12, 3) := by decide +kernel
theorem dX12_goesOn_318 : decode cX12_goesOn 318 = .ok (.aload_n 0, 1) := by decide +kernel
theorem dX12_goesOn_319 : decode cX12_goesOn 319 = .ok (.iconst 1, 1) := by decide +kernel
theorem dX12_goesOn_320 : decode cX12_goesOn 320 = .ok (.aload_n 0, 1) := by decide +kernel
theorem dX12_goesOn_321 : decode cX12_goesOn 321 = .ok (.getfield 23, 3) := by decide +kernel
theorem dX12_goesOn_324 : decode cX12_goesOn 324 = .ok (.invokevirtual 224, 3) := by decide +kernel
theorem dX12_goesOn_327 : decode cX12_goesOn 327 = .ok (.aload_n 0, 1) := by decide +kernel
theorem dX12_goesOn_328 : decode cX12_goesOn 328 = .ok (.getfield 36, 3) := by decide +kernel
theorem dX12_goesOn_331 : decode cX12_goesOn 331 = .ok (.ifCond .le 5, 3) := by decide +kernel
theorem dX12_goesOn_334 : decode cX12_goesOn 334 = .ok (.iconst 0, 1) := by decide +kernel
theorem dX12_goesOn_335 : decode cX12_goesOn 335 = .ok (.ireturn, 1) := by decide +kernel
theorem dX12_goesOn_336 : decode cX12_goesOn 336 = .ok (.aload_n 0, 1) := by decide +kernel
theorem dX12_goesOn_337 : decode cX12_goesOn 337 = .ok (.ldc2_w 286, 3) := by decide +kernel
theorem dX12_goesOn_340 : decode cX12_goesOn 340 = .ok (.invokevirtual 312, 3) := by decide +kernel
theorem dX12_goesOn_343 : decode cX12_goesOn 343 = .ok (.istore 4, 2) := by decide +kernel
theorem dX12_goesOn_345 : decode cX12_goesOn 345 = .ok (.aload_n 0, 1) := by decide +kernel
theorem dX12_goesOn_346 : decode cX12_goesOn 346 = .ok (.iload 4, 2) := by decide +kernel
theorem dX12_goesOn_348 : decode cX12_goesOn 348 = .ok (.ifCond .eq 7, 3) := by decide +kernel
theorem dX12_goesOn_351 : decode cX12_goesOn 351 = .ok (.iconst 2, 1) := by decide +kernel
theorem dX12_goesOn_352 : decode cX12_goesOn 352 = .ok (.goto 4, 3) := by decide +kernel
theorem dX12_goesOn_355 : decode cX12_goesOn 355 = .ok (.iconst 1, 1) := by decide +kernel
theorem dX12_goesOn_356 : decode cX12_goesOn 356 = .ok (.invokevirtual 325, 3) := by decide +kernel
theorem dX12_goesOn_359 : decode cX12_goesOn 359 = .ok (.aload_n 0, 1) := by decide +kernel
theorem dX12_goesOn_360 : decode cX12_goesOn 360 = .ok (.iload 4, 2) := by decide +kernel
theorem dX12_goesOn_362 : decode cX12_goesOn 362 = .ok (.ifCond .eq 8, 3) := by decide +kernel
theorem dX12_goesOn_365 : decode cX12_goesOn 365 = .ok (.bipush 41, 2) := by decide +kernel
theorem dX12_goesOn_367 : decode cX12_goesOn 367 = .ok (.goto 5, 3) := by decide +kernel
theorem dX12_goesOn_370 : decode cX12_goesOn 370 = .ok (.bipush 42, 2) := by decide +kernel
theorem dX12_goesOn_372 : decode cX12_goesOn 372 = .ok (.invokevirtual 316, 3) := by decide +kernel
theorem dX12_goesOn_375 : decode cX12_goesOn 375 = .ok (.aload_n 0, 1) := by decide +kernel
theorem dX12_goesOn_376 : decode cX12_goesOn 376 = .ok (.getfield 109, 3) := by decide +kernel
theorem dX12_goesOn_379 : decode cX12_goesOn 379 = .ok (.iload_n 1, 1) := by decide +kernel
theorem dX12_goesOn_380 : decode cX12_goesOn 380 = .ok (.iconst 0, 1) := by decide +kernel
theorem dX12_goesOn_381 : decode cX12_goesOn 381 = .ok (.iastore, 1) := by decide +kernel
theorem dX12_goesOn_382 : decode cX12_goesOn 382 = .ok (.aload_n 0, 1) := by decide +kernel
theorem dX12_goesOn_383 : decode cX12_goesOn 383 = .ok (.getfield 112, 3) := by decide +kernel
theorem dX12_goesOn_386 : decode cX12_goesOn 386 = .ok (.iload_n 1, 1) := by decide +kernel
theorem dX12_goesOn_387 : decode cX12_goesOn 387 = .ok (.iconst 1, 1) := by decide +kernel
theorem dX12_goesOn_388 : decode cX12_goesOn 388 = .ok (.bastore, 1) := by decide +kernel
theorem dX12_goesOn_389 : decode cX12_goesOn 389 = .ok (.aload_n 0, 1) := by decide +kernel
theorem dX12_goesOn_390 : decode cX12_goesOn 390 = .ok (.invokevirtual 241, 3) := by decide +kernel
theorem dX12_goesOn_393 : decode cX12_goesOn 393 = .ok (.aload_n 0, 1) := by decide +kernel
theorem dX12_goesOn_394 : decode cX12_goesOn 394 = .ok (.iconst 0, 1) := by decide +kernel
theorem dX12_goesOn_395 : decode cX12_goesOn 395 = .ok (.putfield 134, 3) := by decide +kernel
theorem dX12_goesOn_398 : decode cX12_goesOn 398 = .ok (.iconst 1, 1) := by decide +kernel
theorem dX12_goesOn_399 : decode cX12_goesOn 399 = .ok (.ireturn, 1) := by decide +kernel
theorem dX12_goesOn_400 : decode cX12_goesOn 400 = .ok (.iload_n 3, 1) := by decide +kernel
theorem dX12_goesOn_401 : decode cX12_goesOn 401 = .ok (.ifCond .eq 21, 3) := by decide +kernel
theorem dX12_goesOn_404 : decode cX12_goesOn 404 = .ok (.aload_n 0, 1) := by decide +kernel
theorem dX12_goesOn_405 : decode cX12_goesOn 405 = .ok (.getfield 109, 3) := by decide +kernel
theorem dX12_goesOn_408 : decode cX12_goesOn 408 = .ok (.iload_n 1, 1) := by decide +kernel
theorem dX12_goesOn_409 : decode cX12_goesOn 409 = .ok (.iaload, 1) := by decide +kernel
theorem dX12_goesOn_410 : decode cX12_goesOn 410 = .ok (.ifCond .ne 12, 3) := by decide +kernel
theorem dX12_goesOn_413 : decode cX12_goesOn 413 = .ok (.aload_n 0, 1) := by decide +kernel
theorem dX12_goesOn_414 : decode cX12_goesOn 414 = .ok (.iconst 1, 1) := by decide +kernel
theorem dX12_goesOn_415 : decode cX12_goesOn 415 = .ok (.aload_n 0, 1) := by decide +kernel
theorem dX12_goesOn_416 : decode cX12_goesOn 416 = .ok (.getfield 23, 3) := by decide +kernel
theorem dX12_goesOn_419 : decode cX12_goesOn 419 = .ok (.invokevirtual 224, 3) := by decide +kernel
theorem dX12_goesOn_422 : decode cX12_goesOn 422 = .ok (.iload_n 2, 1) := by decide +kernel
theorem dX12_goesOn_423 : decode cX12_goesOn 423 = .ok (.iconst 2, 1) := by decide +kernel
theorem dX12_goesOn_424 : decode cX12_goesOn 424 = .ok (.if_icmp .ge 17, 3) := by decide +kernel
theorem dX12_goesOn_427 : decode cX12_goesOn 427 = .ok (.aload_n 0, 1) := by decide +kernel
theorem dX12_goesOn_428 : decode cX12_goesOn 428 = .ok (.getfield 36, 3) := by decide +kernel
theorem dX12_goesOn_431 : decode cX12_goesOn 431 = .ok (.ifCond .ne 8, 3) := by decide +kernel
theorem dX12_goesOn_434 : decode cX12_goesOn 434 = .ok (.aload_n 0, 1) := by decide +kernel
theorem dX12_goesOn_435 : decode cX12_goesOn 435 = .ok (.iconst 1, 1) := by decide +kernel
theorem dX12_goesOn_436 : decode cX12_goesOn 436 = .ok (.invokevirtual 325, 3) := by decide +kernel
theorem dX12_goesOn_439 : decode cX12_goesOn 439 = .ok (.iconst 0, 1) := by decide +kernel
theorem dX12_goesOn_440 : decode cX12_goesOn 440 = .ok (.ireturn, 1) := by decide +kernel
theorem dX12_goesOn_441 : decode cX12_goesOn 441 = .ok (.iload_n 2, 1) := by decide +kernel
theorem dX12_goesOn_442 : decode cX12_goesOn 442 = .ok (.iconst 3, 1) := by decide +kernel
theorem dX12_goesOn_443 : decode cX12_goesOn 443 = .ok (.if_icmp .eq 9, 3) := by decide +kernel
theorem dX12_goesOn_446 : decode cX12_goesOn 446 = .ok (.iload_n 2, 1) := by decide +kernel
theorem dX12_goesOn_447 : decode cX12_goesOn 447 = .ok (.bipush 6, 2) := by decide +kernel
theorem dX12_goesOn_449 : decode cX12_goesOn 449 = .ok (.if_icmp .ne 69, 3) := by decide +kernel
theorem dX12_goesOn_452 : decode cX12_goesOn 452 = .ok (.aload_n 0, 1) := by decide +kernel
theorem dX12_goesOn_453 : decode cX12_goesOn 453 = .ok (.bipush 44, 2) := by decide +kernel
theorem dX12_goesOn_455 : decode cX12_goesOn 455 = .ok (.invokevirtual 238, 3) := by decide +kernel
theorem dX12_goesOn_458 : decode cX12_goesOn 458 = .ok (.ifCond .ne 12, 3) := by decide +kernel
theorem dX12_goesOn_461 : decode cX12_goesOn 461 = .ok (.aload_n 0, 1) := by decide +kernel
theorem dX12_goesOn_462 : decode cX12_goesOn 462 = .ok (.iconst 1, 1) := by decide +kernel
theorem dX12_goesOn_463 : decode cX12_goesOn 463 = .ok (.aload_n 0, 1) := by decide +kernel
theorem dX12_goesOn_464 : decode cX12_goesOn 464 = .ok (.getfield 23, 3) := by decide +kernel
theorem dX12_goesOn_467 : decode cX12_goesOn 467 = .ok (.invokevirtual 224, 3) := by decide +kernel
theorem dX12_goesOn_470 : decode cX12_goesOn 470 = .ok (.aload_n 0, 1) := by decide +kernel
theorem dX12_goesOn_471 : decode cX12_goesOn 471 = .ok (.getfield 36, 3) := by decide +kernel
theorem dX12_goesOn_474 : decode cX12_goesOn 474 = .ok (.ifCond .le 5, 3) := by decide +kernel
theorem dX12_goesOn_477 : decode cX12_goesOn 477 = .ok (.iconst 0, 1) := by decide +kernel
theorem dX12_goesOn_478 : decode cX12_goesOn 478 = .ok (.ireturn, 1) := by decide +kernel
theorem dX12_goesOn_479 : decode cX12_goesOn 479 = .ok (.aload_n 0, 1) := by decide +kernel
theorem dX12_goesOn_480 : decode cX12_goesOn 480 = .ok (.iconst 1, 1) := by decide +kernel
theorem dX12_goesOn_481 : decode cX12_goesOn 481 = .ok (.invokevirtual 325, 3) := by decide +kernel
theorem dX12_goesOn_484 : decode cX12_goesOn 484 = .ok (.aload_n 0, 1) := by decide +kernel
theorem dX12_goesOn_485 : decode cX12_goesOn 485 = .ok (.getfield 106, 3) := by decide +kernel
theorem dX12_goesOn_488 : decode cX12_goesOn 488 = .ok (.iload_n 1, 1) := by decide +kernel
theorem dX12_goesOn_489 : decode cX12_goesOn 489 = .ok (.iload_n 2, 1) := by decide +kernel
theorem dX12_goesOn_490 : decode cX12_goesOn 490 = .ok (.iconst 3, 1) := by decide +kernel
theorem dX12_goesOn_491 : decode cX12_goesOn 491 = .ok (.if_icmp .ne 7, 3) := by decide +kernel
theorem dX12_goesOn_494 : decode cX12_goesOn 494 = .ok (.iconst 4, 1) := by decide +kernel
theorem dX12_goesOn_495 : decode cX12_goesOn 495 = .ok (.goto 4, 3) := by decide +kernel
theorem dX12_goesOn_498 : decode cX12_goesOn 498 = .ok (.iconst 3, 1) := by decide +kernel
theorem dX12_goesOn_499 : decode cX12_goesOn 499 = .ok (.iastore, 1) := by decide +kernel
theorem dX12_goesOn_500 : decode cX12_goesOn 500 = .ok (.aload_n 0, 1) := by decide +kernel
theorem dX12_goesOn_501 : decode cX12_goesOn 501 = .ok (.getfield 109, 3) := by decide +kernel
theorem dX12_goesOn_504 : decode cX12_goesOn 504 = .ok (.iload_n 1, 1) := by decide +kernel
theorem dX12_goesOn_505 : decode cX12_goesOn 505 = .ok (.iconst 0, 1) := by decide +kernel
theorem dX12_goesOn_506 : decode cX12_goesOn 506 = .ok (.iastore, 1) := by decide +kernel
theorem dX12_goesOn_507 : decode cX12_goesOn 507 = .ok (.aload_n 0, 1) := by decide +kernel
theorem dX12_goesOn_508 : decode cX12_goesOn 508 = .ok (.invokevirtual 241, 3) := by decide +kernel
theorem dX12_goesOn_511 : decode cX12_goesOn 511 = .ok (.aload_n 0, 1) := by decide +kernel
theorem dX12_goesOn_512 : decode cX12_goesOn 512 = .ok (.iconst 0, 1) := by decide +kernel
theorem dX12_goesOn_513 : decode cX12_goesOn 513 = .ok (.putfield 134, 3) := by decide +kernel
theorem dX12_goesOn_516 : decode cX12_goesOn 516 = .ok (.iconst 1, 1) := by decide +kernel
theorem dX12_goesOn_517 : decode cX12_goesOn 517 = .ok (.ireturn, 1) := by decide +kernel
theorem dX12_goesOn_518 : decode cX12_goesOn 518 = .ok (.aload_n 0, 1) := by decide +kernel
theorem dX12_goesOn_519 : decode cX12_goesOn 519 = .ok (.iload_n 2, 1) := by decide +kernel
theorem dX12_goesOn_520 : decode cX12_goesOn 520 = .ok (.iconst 5, 1) := by decide +kernel
theorem dX12_goesOn_521 : decode cX12_goesOn 521 = .ok (.if_icmp .ne 8, 3) := by decide +kernel
theorem dX12_goesOn_524 : decode cX12_goesOn 524 = .ok (.bipush 93, 2) := by decide +kernel
theorem dX12_goesOn_526 : decode cX12_goesOn 526 = .ok (.goto 5, 3) := by decide +kernel
theorem dX12_goesOn_529 : decode cX12_goesOn 529 = .ok (.bipush 41, 2) := by decide +kernel
theorem dX12_goesOn_531 : decode cX12_goesOn 531 = .ok (.invokevirtual 238, 3) := by decide +kernel
theorem dX12_goesOn_534 : decode cX12_goesOn 534 = .ok (.ifCond .ne 12, 3) := by decide +kernel
theorem dX12_goesOn_537 : decode cX12_goesOn 537 = .ok (.aload_n 0, 1) := by decide +kernel
theorem dX12_goesOn_538 : decode cX12_goesOn 538 = .ok (.iconst 1, 1) := by decide +kernel
theorem dX12_goesOn_539 : decode cX12_goesOn 539 = .ok (.aload_n 0, 1) := by decide +kernel
theorem dX12_goesOn_540 : decode cX12_goesOn 540 = .ok (.getfield 23, 3) := by decide +kernel
theorem dX12_goesOn_543 : decode cX12_goesOn 543 = .ok (.invokevirtual 224, 3) := by decide +kernel
theorem dX12_goesOn_546 : decode cX12_goesOn 546 = .ok (.aload_n 0, 1) := by decide +kernel
theorem dX12_goesOn_547 : decode cX12_goesOn 547 = .ok (.getfield 36, 3) := by decide +kernel
theorem dX12_goesOn_550 : decode cX12_goesOn 550 = .ok (.ifCond .le 5, 3) := by decide +kernel
theorem dX12_goesOn_553 : decode cX12_goesOn 553 = .ok (.iconst 0, 1) := by decide +kernel
theorem dX12_goesOn_554 : decode cX12_goesOn 554 = .ok (.ireturn, 1) := by decide +kernel
theorem dX12_goesOn_555 : decode cX12_goesOn 555 = .ok (.aload_n 0, 1) := by decide +kernel
theorem dX12_goesOn_556 : decode cX12_goesOn 556 = .ok (.iconst 1, 1) := by decide +kernel
theorem dX12_goesOn_557 : decode cX12_goesOn 557 = .ok (.invokevirtual 325, 3) := by decide +kernel
theorem dX12_goesOn_560 : decode cX12_goesOn 560 = .ok (.aload_n 0, 1) := by decide +kernel
theorem dX12_goesOn_561 : decode cX12_goesOn 561 = .ok (.dup, 1) := by decide +kernel
theorem dX12_goesOn_562 : decode cX12_goesOn 562 = .ok (.getfield 122, 3) := by decide +kernel
theorem dX12_goesOn_565 : decode cX12_goesOn 565 = .ok (.iconst 1, 1) := by decide +kernel
theorem dX12_goesOn_566 : decode cX12_goesOn 566 = .ok (.isub, 1) := by decide +kernel
theorem dX12_goesOn_567 : decode cX12_goesOn 567 = .ok (.putfield 122, 3) := by decide +kernel
theorem dX12_goesOn_570 : decode cX12_goesOn 570 = .ok (.aload_n 0, 1) := by decide +kernel
theorem dX12_goesOn_571 : decode cX12_goesOn 571 = .ok (.dup, 1) := by decide +kernel
theorem dX12_goesOn_572 : decode cX12_goesOn 572 = .ok (.getfield 125, 3) := by decide +kernel
theorem dX12_goesOn_575 : decode cX12_goesOn 575 = .ok (.iconst 1, 1) := by decide +kernel
theorem dX12_goesOn_576 : decode cX12_goesOn 576 = .ok (.isub, 1) := by decide +kernel
theorem dX12_goesOn_577 : decode cX12_goesOn 577 = .ok (.putfield 125, 3) := by decide +kernel
theorem dX12_goesOn_580 : decode cX12_goesOn 580 = .ok (.iload_n 2, 1) := by decide +kernel
theorem dX12_goesOn_581 : decode cX12_goesOn 581 = .ok (.iconst 4, 1) := by decide +kernel
theorem dX12_goesOn_582 : decode cX12_goesOn 582 = .ok (.if_icmp .ne 14, 3) := by decide +kernel
theorem dX12_goesOn_585 : decode cX12_goesOn 585 = .ok (.aload_n 0, 1) := by decide +kernel
theorem dX12_goesOn_586 : decode cX12_goesOn 586 = .ok (.aload_n 0, 1) := by decide +kernel
theorem dX12_goesOn_587 : decode cX12_goesOn 587 = .ok (.getfield 116, 3) := by decide +kernel
theorem dX12_goesOn_590 : decode cX12_goesOn 590 = .ok (.iload_n 1, 1) := by decide +kernel
theorem dX12_goesOn_591 : decode cX12_goesOn 591 = .ok (.iaload, 1) := by decide +kernel
theorem dX12_goesOn_592 : decode cX12_goesOn 592 = .ok (.iconst 0, 1) := by decide +kernel
theorem dX12_goesOn_593 : decode cX12_goesOn 593 = .ok (.invokevirtual 303, 3) := by decide +kernel
theorem dX12_goesOn_596 : decode cX12_goesOn 596 = .ok (.iload_n 2, 1) := by decide +kernel
theorem dX12_goesOn_597 : decode cX12_goesOn 597 = .ok (.iconst 5, 1) := by decide +kernel
theorem dX12_goesOn_598 : decode cX12_goesOn 598 = .ok (.if_icmp .ne 15, 3) := by decide +kernel
theorem dX12_goesOn_601 : decode cX12_goesOn 601 = .ok (.aload_n 0, 1) := by decide +kernel
theorem dX12_goesOn_602 : decode cX12_goesOn 602 = .ok (.getfield 109, 3) := by decide +kernel
theorem dX12_goesOn_605 : decode cX12_goesOn 605 = .ok (.aload_n 0, 1) := by decide +kernel
theorem dX12_goesOn_606 : decode cX12_goesOn 606 = .ok (.getfield 122, 3) := by decide +kernel
theorem dX12_goesOn_609 : decode cX12_goesOn 609 = .ok (.iconst 1, 1) := by decide +kernel
theorem dX12_goesOn_610 : decode cX12_goesOn 610 = .ok (.isub, 1) := by decide +kernel
theorem dX12_goesOn_611 : decode cX12_goesOn 611 = .ok (.iconst 2, 1) := by decide +kernel
theorem dX12_goesOn_612 : decode cX12_goesOn 612 = .ok (.iastore, 1) := by decide +kernel
theorem dX12_goesOn_613 : decode cX12_goesOn 613 = .ok (.aload_n 0, 1) := by decide +kernel
theorem dX12_goesOn_614 : decode cX12_goesOn 614 = .ok (.invokevirtual 241, 3) := by decide +kernel
theorem dX12_goesOn_617 : decode cX12_goesOn 617 = .ok (.iconst 1, 1) := by decide +kernel
theorem dX12_goesOn_618 : decode cX12_goesOn 618 = .ok (.ireturn, 1) := by decide +kernel
theorem dX12_reads_0 : decode cX12_reads 0 = .ok (.aload_n 0, 1) := by decide +kernel
theorem dX12_reads_1 : decode cX12_reads 1 = .ok (.getfield 36, 3) := by decide +kernel
theorem dX12_reads_4 : decode cX12_reads 4 = .ok (.ifCond .le 4, 3) := by decide +kernel
theorem dX12_reads_7 : decode cX12_reads 7 = .ok (.return_, 1) := by decide +kernel
theorem dX12_reads_8 : decode cX12_reads 8 = .ok (.aload_n 0, 1) := by decide +kernel
theorem dX12_reads_9 : decode cX12_reads 9 = .ok (.iconst 0, 1) := by decide +kernel
theorem dX12_reads_10 : decode cX12_reads 10 = .ok (.putfield 122, 3) := by decide +kernel
theorem dX12_reads_13 : decode cX12_reads 13 = .ok (.aload_n 0, 1) := by decide +kernel
theorem dX12_reads_14 : decode cX12_reads 14 = .ok (.iconst 0, 1) := by decide +kernel
theorem dX12_reads_15 : decode cX12_reads 15 = .ok (.putfield 125, 3) := by decide +kernel
theorem dX12_reads_18 : decode cX12_reads 18 = .ok (.aload_n 0, 1) := by decide +kernel
theorem dX12_reads_19 : decode cX12_reads 19 = .ok (.iconst 0, 1) := by decide +kernel
theorem dX12_reads_20 : decode cX12_reads 20 = .ok (.putfield 131, 3) := by decide +kernel
theorem dX12_reads_23 : decode cX12_reads 23 = .ok (.aload_n 0, 1) := by decide +kernel
theorem dX12_reads_24 : decode cX12_reads 24 = .ok (.iconst 0, 1) := by decide +kernel
theorem dX12_reads_25 : decode cX12_reads 25 = .ok (.putfield 134, 3) := by decide +kernel
theorem dX12_reads_28 : decode cX12_reads 28 = .ok (.aload_n 0, 1) := by decide +kernel
theorem dX12_reads_29 : decode cX12_reads 29 = .ok (.iload_n 1, 1) := by decide +kernel
theorem dX12_reads_30 : decode cX12_reads 30 = .ok (.ifCond .eq 7, 3) := by decide +kernel
theorem dX12_reads_33 : decode cX12_reads 33 = .ok (.iconst 1, 1) := by decide +kernel
theorem dX12_reads_34 : decode cX12_reads 34 = .ok (.goto 4, 3) := by decide +kernel
theorem dX12_reads_37 : decode cX12_reads 37 = .ok (.iconst 0, 1) := by decide +kernel
theorem dX12_reads_38 : decode cX12_reads 38 = .ok (.invokevirtual 306, 3) := by decide +kernel
theorem dX12_reads_41 : decode cX12_reads 41 = .ok (.iconst 1, 1) := by decide +kernel
theorem dX12_reads_42 : decode cX12_reads 42 = .ok (.istore_n 2, 1) := by decide +kernel
theorem dX12_reads_43 : decode cX12_reads 43 = .ok (.iload_n 2, 1) := by decide +kernel
theorem dX12_reads_44 : decode cX12_reads 44 = .ok (.ifCond .eq 46, 3) := by decide +kernel
theorem dX12_reads_47 : decode cX12_reads 47 = .ok (.aload_n 0, 1) := by decide +kernel
theorem dX12_reads_48 : decode cX12_reads 48 = .ok (.getfield 134, 3) := by decide +kernel
theorem dX12_reads_51 : decode cX12_reads 51 = .ok (.ifCond .ne 14, 3) := by decide +kernel
theorem dX12_reads_54 : decode cX12_reads 54 = .ok (.aload_n 0, 1) := by decide +kernel
theorem dX12_reads_55 : decode cX12_reads 55 = .ok (.aload_n 0, 1) := by decide +kernel
theorem dX12_reads_56 : decode cX12_reads 56 = .ok (.invokevirtual 328, 3) := by decide +kernel
theorem dX12_reads_59 : decode cX12_reads 59 = .ok (.putfield 134, 3) := by decide +kernel
theorem dX12_reads_62 : decode cX12_reads 62 = .ok (.goto 8, 3) := by decide +kernel
theorem dX12_reads_65 : decode cX12_reads 65 = .ok (.aload_n 0, 1) := by decide +kernel
theorem dX12_reads_66 : decode cX12_reads 66 = .ok (.invokevirtual 331, 3) := by decide +kernel
theorem dX12_reads_69 : decode cX12_reads 69 = .ok (.istore_n 2, 1) := by decide +kernel
theorem dX12_reads_70 : decode cX12_reads 70 = .ok (.iload_n 2, 1) := by decide +kernel
theorem dX12_reads_71 : decode cX12_reads 71 = .ok (.ifCond .eq 14, 3) := by decide +kernel
theorem dX12_reads_74 : decode cX12_reads 74 = .ok (.aload_n 0, 1) := by decide +kernel
theorem dX12_reads_75 : decode cX12_reads 75 = .ok (.getfield 36, 3) := by decide +kernel
theorem dX12_reads_78 : decode cX12_reads 78 = .ok (.ifCond .ne 7, 3) := by decide +kernel
theorem dX12_reads_81 : decode cX12_reads 81 = .ok (.iconst 1, 1) := by decide +kernel
theorem dX12_reads_82 : decode cX12_reads 82 = .ok (.goto 4, 3) := by decide +kernel
theorem dX12_reads_85 : decode cX12_reads 85 = .ok (.iconst 0, 1) := by decide +kernel
theorem dX12_reads_86 : decode cX12_reads 86 = .ok (.istore_n 2, 1) := by decide +kernel
theorem dX12_reads_87 : decode cX12_reads 87 = .ok (.goto (-44), 3) := by decide +kernel
theorem dX12_reads_90 : decode cX12_reads 90 = .ok (.return_, 1) := by decide +kernel
theorem dX12_counts_0 : decode cX12_counts 0 = .ok (.aload_n 0, 1) := by decide +kernel
theorem dX12_counts_1 : decode cX12_counts 1 = .ok (.getfield 36, 3) := by decide +kernel
theorem dX12_counts_4 : decode cX12_counts 4 = .ok (.ifCond .ne 17, 3) := by decide +kernel
theorem dX12_counts_7 : decode cX12_counts 7 = .ok (.iload_n 1, 1) := by decide +kernel
theorem dX12_counts_8 : decode cX12_counts 8 = .ok (.ifCond .eq 13, 3) := by decide +kernel
theorem dX12_counts_11 : decode cX12_counts 11 = .ok (.aload_n 0, 1) := by decide +kernel
theorem dX12_counts_12 : decode cX12_counts 12 = .ok (.bipush 6, 2) := by decide +kernel
theorem dX12_counts_14 : decode cX12_counts 14 = .ok (.aload_n 0, 1) := by decide +kernel
theorem dX12_counts_15 : decode cX12_counts 15 = .ok (.getfield 23, 3) := by decide +kernel
theorem dX12_counts_18 : decode cX12_counts 18 = .ok (.invokevirtual 224, 3) := by decide +kernel
theorem dX12_counts_21 : decode cX12_counts 21 = .ok (.aload_n 0, 1) := by decide +kernel
theorem dX12_counts_22 : decode cX12_counts 22 = .ok (.getfield 36, 3) := by decide +kernel
theorem dX12_counts_25 : decode cX12_counts 25 = .ok (.ifCond .ne 7, 3) := by decide +kernel
theorem dX12_counts_28 : decode cX12_counts 28 = .ok (.aload_n 0, 1) := by decide +kernel
theorem dX12_counts_29 : decode cX12_counts 29 = .ok (.invokevirtual 241, 3) := by decide +kernel
theorem dX12_counts_32 : decode cX12_counts 32 = .ok (.aload_n 0, 1) := by decide +kernel
theorem dX12_counts_33 : decode cX12_counts 33 = .ok (.getfield 36, 3) := by decide +kernel
theorem dX12_counts_36 : decode cX12_counts 36 = .ok (.ifCond .ne 7, 3) := by decide +kernel
theorem dX12_counts_39 : decode cX12_counts 39 = .ok (.iconst 1, 1) := by decide +kernel
theorem dX12_counts_40 : decode cX12_counts 40 = .ok (.goto 4, 3) := by decide +kernel
theorem dX12_counts_43 : decode cX12_counts 43 = .ok (.iconst 0, 1) := by decide +kernel
theorem dX12_counts_44 : decode cX12_counts 44 = .ok (.ireturn, 1) := by decide +kernel
theorem dX12_must__0 : decode cX12_must_ 0 = .ok (.aload_n 0, 1) := by decide +kernel
theorem dX12_must__1 : decode cX12_must_ 1 = .ok (.invokevirtual 235, 3) := by decide +kernel
theorem dX12_must__4 : decode cX12_must_ 4 = .ok (.aload_n 0, 1) := by decide +kernel
theorem dX12_must__5 : decode cX12_must_ 5 = .ok (.getfield 36, 3) := by decide +kernel
theorem dX12_must__8 : decode cX12_must_ 8 = .ok (.ifCond .le 4, 3) := by decide +kernel
theorem dX12_must__11 : decode cX12_must_ 11 = .ok (.return_, 1) := by decide +kernel
theorem dX12_must__12 : decode cX12_must_ 12 = .ok (.aload_n 0, 1) := by decide +kernel
theorem dX12_must__13 : decode cX12_must_ 13 = .ok (.lload_n 1, 1) := by decide +kernel
theorem dX12_must__14 : decode cX12_must_ 14 = .ok (.invokevirtual 312, 3) := by decide +kernel
theorem dX12_must__17 : decode cX12_must_ 17 = .ok (.ifCond .ne 12, 3) := by decide +kernel
theorem dX12_must__20 : decode cX12_must_ 20 = .ok (.aload_n 0, 1) := by decide +kernel
theorem dX12_must__21 : decode cX12_must_ 21 = .ok (.iconst 1, 1) := by decide +kernel
theorem dX12_must__22 : decode cX12_must_ 22 = .ok (.aload_n 0, 1) := by decide +kernel
theorem dX12_must__23 : decode cX12_must_ 23 = .ok (.getfield 23, 3) := by decide +kernel
theorem dX12_must__26 : decode cX12_must_ 26 = .ok (.invokevirtual 224, 3) := by decide +kernel
theorem dX12_must__29 : decode cX12_must_ 29 = .ok (.aload_n 0, 1) := by decide +kernel
theorem dX12_must__30 : decode cX12_must_ 30 = .ok (.getfield 36, 3) := by decide +kernel
theorem dX12_must__33 : decode cX12_must_ 33 = .ok (.ifCond .ne 7, 3) := by decide +kernel
theorem dX12_must__36 : decode cX12_must_ 36 = .ok (.aload_n 0, 1) := by decide +kernel
theorem dX12_must__37 : decode cX12_must_ 37 = .ok (.invokevirtual 241, 3) := by decide +kernel
theorem dX12_must__40 : decode cX12_must_ 40 = .ok (.return_, 1) := by decide +kernel
theorem dX12_has2_0 : decode cX12_has2 0 = .ok (.iload_n 0, 1) := by decide +kernel
theorem dX12_has2_1 : decode cX12_has2 1 = .ok (.iload_n 1, 1) := by decide +kernel
theorem dX12_has2_2 : decode cX12_has2 2 = .ok (.ishr, 1) := by decide +kernel
theorem dX12_has2_3 : decode cX12_has2 3 = .ok (.iconst 1, 1) := by decide +kernel
theorem dX12_has2_4 : decode cX12_has2 4 = .ok (.iand, 1) := by decide +kernel
theorem dX12_has2_5 : decode cX12_has2 5 = .ok (.iconst 1, 1) := by decide +kernel
theorem dX12_has2_6 : decode cX12_has2 6 = .ok (.if_icmp .ne 7, 3) := by decide +kernel
theorem dX12_has2_9 : decode cX12_has2 9 = .ok (.iconst 1, 1) := by decide +kernel
theorem dX12_has2_10 : decode cX12_has2 10 = .ok (.goto 4, 3) := by decide +kernel
theorem dX12_has2_13 : decode cX12_has2 13 = .ok (.iconst 0, 1) := by decide +kernel
theorem dX12_has2_14 : decode cX12_has2 14 = .ok (.ireturn, 1) := by decide +kernel
theorem dX12_fresh_0 : decode cX12_fresh 0 = .ok (.aload_n 0, 1) := by decide +kernel
theorem dX12_fresh_1 : decode cX12_fresh 1 = .ok (.invokevirtual 235, 3) := by decide +kernel
theorem dX12_fresh_4 : decode cX12_fresh 4 = .ok (.aload_n 0, 1) := by decide +kernel
theorem dX12_fresh_5 : decode cX12_fresh 5 = .ok (.getfield 36, 3) := by decide +kernel
theorem dX12_fresh_8 : decode cX12_fresh 8 = .ok (.ifCond .le 5, 3) := by decide +kernel
theorem dX12_fresh_11 : decode cX12_fresh 11 = .ok (.lconst 0, 1) := by decide +kernel
theorem dX12_fresh_12 : decode cX12_fresh 12 = .ok (.lreturn, 1) := by decide +kernel
theorem dX12_fresh_13 : decode cX12_fresh 13 = .ok (.aload_n 0, 1) := by decide +kernel
theorem dX12_fresh_14 : decode cX12_fresh 14 = .ok (.getfield 20, 3) := by decide +kernel
theorem dX12_fresh_17 : decode cX12_fresh 17 = .ok (.iconst 1, 1) := by decide +kernel
theorem dX12_fresh_18 : decode cX12_fresh 18 = .ok (.if_icmp .ne 14, 3) := by decide +kernel
theorem dX12_fresh_21 : decode cX12_fresh 21 = .ok (.aload_n 0, 1) := by decide +kernel
theorem dX12_fresh_22 : decode cX12_fresh 22 = .ok (.aload_n 0, 1) := by decide +kernel
theorem dX12_fresh_23 : decode cX12_fresh 23 = .ok (.getfield 32, 3) := by decide +kernel
theorem dX12_fresh_26 : decode cX12_fresh 26 = .ok (.invokevirtual 334, 3) := by decide +kernel
theorem dX12_fresh_29 : decode cX12_fresh 29 = .ok (.ifCond .eq 12, 3) := by decide +kernel
theorem dX12_fresh_32 : decode cX12_fresh 32 = .ok (.aload_n 0, 1) := by decide +kernel
theorem dX12_fresh_33 : decode cX12_fresh 33 = .ok (.iconst 1, 1) := by decide +kernel
theorem dX12_fresh_34 : decode cX12_fresh 34 = .ok (.aload_n 0, 1) := by decide +kernel
theorem dX12_fresh_35 : decode cX12_fresh 35 = .ok (.getfield 23, 3) := by decide +kernel
theorem dX12_fresh_38 : decode cX12_fresh 38 = .ok (.invokevirtual 224, 3) := by decide +kernel
theorem dX12_fresh_41 : decode cX12_fresh 41 = .ok (.aload_n 0, 1) := by decide +kernel
theorem dX12_fresh_42 : decode cX12_fresh 42 = .ok (.getfield 36, 3) := by decide +kernel
theorem dX12_fresh_45 : decode cX12_fresh 45 = .ok (.ifCond .ne 23, 3) := by decide +kernel
theorem dX12_fresh_48 : decode cX12_fresh 48 = .ok (.aload_n 0, 1) := by decide +kernel
theorem dX12_fresh_49 : decode cX12_fresh 49 = .ok (.aload_n 0, 1) := by decide +kernel
theorem dX12_fresh_50 : decode cX12_fresh 50 = .ok (.getfield 32, 3) := by decide +kernel
theorem dX12_fresh_53 : decode cX12_fresh 53 = .ok (.invokevirtual 337, 3) := by decide +kernel
theorem dX12_fresh_56 : decode cX12_fresh 56 = .ok (.ifCond .eq 12, 3) := by decide +kernel
theorem dX12_fresh_59 : decode cX12_fresh 59 = .ok (.aload_n 0, 1) := by decide +kernel
theorem dX12_fresh_60 : decode cX12_fresh 60 = .ok (.iconst 2, 1) := by decide +kernel
theorem dX12_fresh_61 : decode cX12_fresh 61 = .ok (.aload_n 0, 1) := by decide +kernel
theorem dX12_fresh_62 : decode cX12_fresh 62 = .ok (.getfield 23, 3) := by decide +kernel
theorem dX12_fresh_65 : decode cX12_fresh 65 = .ok (.invokevirtual 224, 3) := by decide +kernel
theorem dX12_fresh_68 : decode cX12_fresh 68 = .ok (.aload_n 0, 1) := by decide +kernel
theorem dX12_fresh_69 : decode cX12_fresh 69 = .ok (.getfield 32, 3) := by decide +kernel
theorem dX12_fresh_72 : decode cX12_fresh 72 = .ok (.lstore_n 1, 1) := by decide +kernel
theorem dX12_fresh_73 : decode cX12_fresh 73 = .ok (.aload_n 0, 1) := by decide +kernel
theorem dX12_fresh_74 : decode cX12_fresh 74 = .ok (.getfield 36, 3) := by decide +kernel
theorem dX12_fresh_77 : decode cX12_fresh 77 = .ok (.ifCond .ne 7, 3) := by decide +kernel
theorem dX12_fresh_80 : decode cX12_fresh 80 = .ok (.aload_n 0, 1) := by decide +kernel
theorem dX12_fresh_81 : decode cX12_fresh 81 = .ok (.invokevirtual 241, 3) := by decide +kernel
theorem dX12_fresh_84 : decode cX12_fresh 84 = .ok (.lload_n 1, 1) := by decide +kernel
theorem dX12_fresh_85 : decode cX12_fresh 85 = .ok (.lreturn, 1) := by decide +kernel
theorem dX12_childing_0 : decode cX12_childing 0 = .ok (.aload_n 0, 1) := by decide +kernel
theorem dX12_childing_1 : decode cX12_childing 1 = .ok (.aload_n 0, 1) := by decide +kernel
theorem dX12_childing_2 : decode cX12_childing 2 = .ok (.getfield 54, 3) := by decide +kernel
theorem dX12_childing_5 : decode cX12_childing 5 = .ok (.aload_n 0, 1) := by decide +kernel
theorem dX12_childing_6 : decode cX12_childing 6 = .ok (.getfield 100, 3) := by decide +kernel
theorem dX12_childing_9 : decode cX12_childing 9 = .ok (.iaload, 1) := by decide +kernel
theorem dX12_childing_10 : decode cX12_childing 10 = .ok (.bipush 8, 2) := by decide +kernel
theorem dX12_childing_12 : decode cX12_childing 12 = .ok (.if_icmp .ne 7, 3) := by decide +kernel
theorem dX12_childing_15 : decode cX12_childing 15 = .ok (.iconst 1, 1) := by decide +kernel
theorem dX12_childing_16 : decode cX12_childing 16 = .ok (.goto 4, 3) := by decide +kernel
theorem dX12_childing_19 : decode cX12_childing 19 = .ok (.iconst 0, 1) := by decide +kernel
theorem dX12_childing_20 : decode cX12_childing 20 = .ok (.invokevirtual 340, 3) := by decide +kernel
theorem dX12_childing_23 : decode cX12_childing 23 = .ok (.ifCond .ne 4, 3) := by decide +kernel
theorem dX12_childing_26 : decode cX12_childing 26 = .ok (.return_, 1) := by decide +kernel
theorem dX12_childing_27 : decode cX12_childing 27 = .ok (.bipush 8, 2) := by decide +kernel
theorem dX12_childing_29 : decode cX12_childing 29 = .ok (.aload_n 0, 1) := by decide +kernel
theorem dX12_childing_30 : decode cX12_childing 30 = .ok (.getfield 100, 3) := by decide +kernel
theorem dX12_childing_33 : decode cX12_childing 33 = .ok (.imul, 1) := by decide +kernel
theorem dX12_childing_34 : decode cX12_childing 34 = .ok (.aload_n 0, 1) := by decide +kernel
theorem dX12_childing_35 : decode cX12_childing 35 = .ok (.getfield 54, 3) := by decide +kernel
theorem dX12_childing_38 : decode cX12_childing 38 = .ok (.aload_n 0, 1) := by decide +kernel
theorem dX12_childing_39 : decode cX12_childing 39 = .ok (.getfield 100, 3) := by decide +kernel
theorem dX12_childing_42 : decode cX12_childing 42 = .ok (.iaload, 1) := by decide +kernel
theorem dX12_childing_43 : decode cX12_childing 43 = .ok (.iadd, 1) := by decide +kernel
theorem dX12_childing_44 : decode cX12_childing 44 = .ok (.istore_n 1, 1) := by decide +kernel
theorem dX12_childing_45 : decode cX12_childing 45 = .ok (.aload_n 0, 1) := by decide +kernel
theorem dX12_childing_46 : decode cX12_childing 46 = .ok (.getfield 90, 3) := by decide +kernel
theorem dX12_childing_49 : decode cX12_childing 49 = .ok (.iload_n 1, 1) := by decide +kernel
theorem dX12_childing_50 : decode cX12_childing 50 = .ok (.aload_n 0, 1) := by decide +kernel
theorem dX12_childing_51 : decode cX12_childing 51 = .ok (.invokevirtual 344, 3) := by decide +kernel
theorem dX12_childing_54 : decode cX12_childing 54 = .ok (.lastore, 1) := by decide +kernel
theorem dX12_childing_55 : decode cX12_childing 55 = .ok (.aload_n 0, 1) := by decide +kernel
theorem dX12_childing_56 : decode cX12_childing 56 = .ok (.ldc2_w 246, 3) := by decide +kernel
theorem dX12_childing_59 : decode cX12_childing 59 = .ok (.invokevirtual 348, 3) := by decide +kernel
theorem dX12_childing_62 : decode cX12_childing 62 = .ok (.aload_n 0, 1) := by decide +kernel
theorem dX12_childing_63 : decode cX12_childing 63 = .ok (.getfield 57, 3) := by decide +kernel
theorem dX12_childing_66 : decode cX12_childing 66 = .ok (.iload_n 1, 1) := by decide +kernel
theorem dX12_childing_67 : decode cX12_childing 67 = .ok (.aload_n 0, 1) := by decide +kernel
theorem dX12_childing_68 : decode cX12_childing 68 = .ok (.iconst 0, 1) := by decide +kernel
theorem dX12_childing_69 : decode cX12_childing 69 = .ok (.bipush 99, 2) := by decide +kernel
theorem dX12_childing_71 : decode cX12_childing 71 = .ok (.invokevirtual 352, 3) := by decide +kernel
theorem dX12_childing_74 : decode cX12_childing 74 = .ok (.iastore, 1) := by decide +kernel
theorem dX12_childing_75 : decode cX12_childing 75 = .ok (.aload_n 0, 1) := by decide +kernel
theorem dX12_childing_76 : decode cX12_childing 76 = .ok (.ldc2_w 248, 3) := by decide +kernel
theorem dX12_childing_79 : decode cX12_childing 79 = .ok (.invokevirtual 348, 3) := by decide +kernel
theorem dX12_childing_82 : decode cX12_childing 82 = .ok (.aload_n 0, 1) := by decide +kernel
theorem dX12_childing_83 : decode cX12_childing 83 = .ok (.getfield 60, 3) := by decide +kernel
theorem dX12_childing_86 : decode cX12_childing 86 = .ok (.iload_n 1, 1) := by decide +kernel
theorem dX12_childing_87 : decode cX12_childing 87 = .ok (.aload_n 0, 1) := by decide +kernel
theorem dX12_childing_88 : decode cX12_childing 88 = .ok (.iconst 0, 1) := by decide +kernel
theorem dX12_childing_89 : decode cX12_childing 89 = .ok (.bipush 9, 2) := by decide +kernel
theorem dX12_childing_91 : decode cX12_childing 91 = .ok (.invokevirtual 352, 3) := by decide +kernel
theorem dX12_childing_94 : decode cX12_childing 94 = .ok (.iastore, 1) := by decide +kernel
theorem dX12_childing_95 : decode cX12_childing 95 = .ok (.aload_n 0, 1) := by decide +kernel
theorem dX12_childing_96 : decode cX12_childing 96 = .ok (.getfield 36, 3) := by decide +kernel
theorem dX12_childing_99 : decode cX12_childing 99 = .ok (.ifCond .ne 16, 3) := by decide +kernel
theorem dX12_childing_102 : decode cX12_childing 102 = .ok (.aload_n 0, 1) := by decide +kernel
theorem dX12_childing_103 : decode cX12_childing 103 = .ok (.getfield 54, 3) := by decide +kernel
theorem dX12_childing_106 : decode cX12_childing 106 = .ok (.aload_n 0, 1) := by decide +kernel
theorem dX12_childing_107 : decode cX12_childing 107 = .ok (.getfield 100, 3) := by decide +kernel
theorem dX12_childing_110 : decode cX12_childing 110 = .ok (.dup2, 1) := by decide +kernel
theorem dX12_childing_111 : decode cX12_childing 111 = .ok (.iaload, 1) := by decide +kernel
theorem dX12_childing_112 : decode cX12_childing 112 = .ok (.iconst 1, 1) := by decide +kernel
theorem dX12_childing_113 : decode cX12_childing 113 = .ok (.iadd, 1) := by decide +kernel
theorem dX12_childing_114 : decode cX12_childing 114 = .ok (.iastore, 1) := by decide +kernel
theorem dX12_childing_115 : decode cX12_childing 115 = .ok (.return_, 1) := by decide +kernel
theorem dX12_kilning_0 : decode cX12_kilning 0 = .ok (.aload_n 0, 1) := by decide +kernel
theorem dX12_kilning_1 : decode cX12_kilning 1 = .ok (.aload_n 0, 1) := by decide +kernel
theorem dX12_kilning_2 : decode cX12_kilning 2 = .ok (.getfield 63, 3) := by decide +kernel
theorem dX12_kilning_5 : decode cX12_kilning 5 = .ok (.aload_n 0, 1) := by decide +kernel
theorem dX12_kilning_6 : decode cX12_kilning 6 = .ok (.getfield 100, 3) := by decide +kernel
theorem dX12_kilning_9 : decode cX12_kilning 9 = .ok (.iaload, 1) := by decide +kernel
theorem dX12_kilning_10 : decode cX12_kilning 10 = .ok (.iconst 3, 1) := by decide +kernel
theorem dX12_kilning_11 : decode cX12_kilning 11 = .ok (.if_icmp .ne 7, 3) := by decide +kernel
theorem dX12_kilning_14 : decode cX12_kilning 14 = .ok (.iconst 1, 1) := by decide +kernel
theorem dX12_kilning_15 : decode cX12_kilning 15 = .ok (.goto 4, 3) := by decide +kernel
theorem dX12_kilning_18 : decode cX12_kilning 18 = .ok (.iconst 0, 1) := by decide +kernel
theorem dX12_kilning_19 : decode cX12_kilning 19 = .ok (.invokevirtual 340, 3) := by decide +kernel
theorem dX12_kilning_22 : decode cX12_kilning 22 = .ok (.ifCond .ne 4, 3) := by decide +kernel
theorem dX12_kilning_25 : decode cX12_kilning 25 = .ok (.return_, 1) := by decide +kernel
theorem dX12_kilning_26 : decode cX12_kilning 26 = .ok (.iconst 3, 1) := by decide +kernel
theorem dX12_kilning_27 : decode cX12_kilning 27 = .ok (.aload_n 0, 1) := by decide +kernel
theorem dX12_kilning_28 : decode cX12_kilning 28 = .ok (.getfield 100, 3) := by decide +kernel
theorem dX12_kilning_31 : decode cX12_kilning 31 = .ok (.imul, 1) := by decide +kernel
theorem dX12_kilning_32 : decode cX12_kilning 32 = .ok (.aload_n 0, 1) := by decide +kernel
theorem dX12_kilning_33 : decode cX12_kilning 33 = .ok (.getfield 63, 3) := by decide +kernel
theorem dX12_kilning_36 : decode cX12_kilning 36 = .ok (.aload_n 0, 1) := by decide +kernel
theorem dX12_kilning_37 : decode cX12_kilning 37 = .ok (.getfield 100, 3) := by decide +kernel
theorem dX12_kilning_40 : decode cX12_kilning 40 = .ok (.iaload, 1) := by decide +kernel
theorem dX12_kilning_41 : decode cX12_kilning 41 = .ok (.iadd, 1) := by decide +kernel
theorem dX12_kilning_42 : decode cX12_kilning 42 = .ok (.istore_n 1, 1) := by decide +kernel
theorem dX12_kilning_43 : decode cX12_kilning 43 = .ok (.aload_n 0, 1) := by decide +kernel
theorem dX12_kilning_44 : decode cX12_kilning 44 = .ok (.getfield 94, 3) := by decide +kernel
theorem dX12_kilning_47 : decode cX12_kilning 47 = .ok (.iload_n 1, 1) := by decide +kernel
theorem dX12_kilning_48 : decode cX12_kilning 48 = .ok (.aload_n 0, 1) := by decide +kernel
theorem dX12_kilning_49 : decode cX12_kilning 49 = .ok (.invokevirtual 344, 3) := by decide +kernel
theorem dX12_kilning_52 : decode cX12_kilning 52 = .ok (.lastore, 1) := by decide +kernel
theorem dX12_kilning_53 : decode cX12_kilning 53 = .ok (.aload_n 0, 1) := by decide +kernel
theorem dX12_kilning_54 : decode cX12_kilning 54 = .ok (.ldc2_w 252, 3) := by decide +kernel
theorem dX12_kilning_57 : decode cX12_kilning 57 = .ok (.invokevirtual 348, 3) := by decide +kernel
theorem dX12_kilning_60 : decode cX12_kilning 60 = .ok (.aload_n 0, 1) := by decide +kernel
theorem dX12_kilning_61 : decode cX12_kilning 61 = .ok (.getfield 66, 3) := by decide +kernel
theorem dX12_kilning_64 : decode cX12_kilning 64 = .ok (.iload_n 1, 1) := by decide +kernel
theorem dX12_kilning_65 : decode cX12_kilning 65 = .ok (.aload_n 0, 1) := by decide +kernel
theorem dX12_kilning_66 : decode cX12_kilning 66 = .ok (.iconst 1, 1) := by decide +kernel
theorem dX12_kilning_67 : decode cX12_kilning 67 = .ok (.bipush 6, 2) := by decide +kernel
theorem dX12_kilning_69 : decode cX12_kilning 69 = .ok (.invokevirtual 352, 3) := by decide +kernel
theorem dX12_kilning_72 : decode cX12_kilning 72 = .ok (.iastore, 1) := by decide +kernel
theorem dX12_kilning_73 : decode cX12_kilning 73 = .ok (.aload_n 0, 1) := by decide +kernel
theorem dX12_kilning_74 : decode cX12_kilning 74 = .ok (.getfield 36, 3) := by decide +kernel
theorem dX12_kilning_77 : decode cX12_kilning 77 = .ok (.ifCond .ne 16, 3) := by decide +kernel
theorem dX12_kilning_80 : decode cX12_kilning 80 = .ok (.aload_n 0, 1) := by decide +kernel
theorem dX12_kilning_81 : decode cX12_kilning 81 = .ok (.getfield 63, 3) := by decide +kernel
theorem dX12_kilning_84 : decode cX12_kilning 84 = .ok (.aload_n 0, 1) := by decide +kernel
theorem dX12_kilning_85 : decode cX12_kilning 85 = .ok (.getfield 100, 3) := by decide +kernel
theorem dX12_kilning_88 : decode cX12_kilning 88 = .ok (.dup2, 1) := by decide +kernel
theorem dX12_kilning_89 : decode cX12_kilning 89 = .ok (.iaload, 1) := by decide +kernel
theorem dX12_kilning_90 : decode cX12_kilning 90 = .ok (.iconst 1, 1) := by decide +kernel
theorem dX12_kilning_91 : decode cX12_kilning 91 = .ok (.iadd, 1) := by decide +kernel
theorem dX12_kilning_92 : decode cX12_kilning 92 = .ok (.iastore, 1) := by decide +kernel
theorem dX12_kilning_93 : decode cX12_kilning 93 = .ok (.return_, 1) := by decide +kernel
theorem dX12_reading_0 : decode cX12_reading 0 = .ok (.iconst 4, 1) := by decide +kernel
theorem dX12_reading_1 : decode cX12_reading 1 = .ok (.aload_n 0, 1) := by decide +kernel
theorem dX12_reading_2 : decode cX12_reading 2 = .ok (.getfield 100, 3) := by decide +kernel
theorem dX12_reading_5 : decode cX12_reading 5 = .ok (.imul, 1) := by decide +kernel
theorem dX12_reading_6 : decode cX12_reading 6 = .ok (.iload_n 1, 1) := by decide +kernel
theorem dX12_reading_7 : decode cX12_reading 7 = .ok (.iadd, 1) := by decide +kernel
theorem dX12_reading_8 : decode cX12_reading 8 = .ok (.istore_n 2, 1) := by decide +kernel
theorem dX12_reading_9 : decode cX12_reading 9 = .ok (.aload_n 0, 1) := by decide +kernel
theorem dX12_reading_10 : decode cX12_reading 10 = .ok (.aload_n 0, 1) := by decide +kernel
theorem dX12_reading_11 : decode cX12_reading 11 = .ok (.getfield 78, 3) := by decide +kernel
theorem dX12_reading_14 : decode cX12_reading 14 = .ok (.iload_n 2, 1) := by decide +kernel
theorem dX12_reading_15 : decode cX12_reading 15 = .ok (.iaload, 1) := by decide +kernel
theorem dX12_reading_16 : decode cX12_reading 16 = .ok (.iconst (-1), 1) := by decide +kernel
theorem dX12_reading_17 : decode cX12_reading 17 = .ok (.if_icmp .eq 7, 3) := by decide +kernel
theorem dX12_reading_20 : decode cX12_reading 20 = .ok (.iconst 1, 1) := by decide +kernel
theorem dX12_reading_21 : decode cX12_reading 21 = .ok (.goto 4, 3) := by decide +kernel
theorem dX12_reading_24 : decode cX12_reading 24 = .ok (.iconst 0, 1) := by decide +kernel
theorem dX12_reading_25 : decode cX12_reading 25 = .ok (.invokevirtual 340, 3) := by decide +kernel
theorem dX12_reading_28 : decode cX12_reading 28 = .ok (.ifCond .ne 4, 3) := by decide +kernel
theorem dX12_reading_31 : decode cX12_reading 31 = .ok (.return_, 1) := by decide +kernel
theorem dX12_reading_32 : decode cX12_reading 32 = .ok (.aload_n 0, 1) := by decide +kernel
theorem dX12_reading_33 : decode cX12_reading 33 = .ok (.iload_n 1, 1) := by decide +kernel
theorem dX12_reading_34 : decode cX12_reading 34 = .ok (.putfield 103, 3) := by decide +kernel
theorem dX12_reading_37 : decode cX12_reading 37 = .ok (.aload_n 0, 1) := by decide +kernel
theorem dX12_reading_38 : decode cX12_reading 38 = .ok (.getfield 78, 3) := by decide +kernel
theorem dX12_reading_41 : decode cX12_reading 41 = .ok (.iload_n 2, 1) := by decide +kernel
theorem dX12_reading_42 : decode cX12_reading 42 = .ok (.aload_n 0, 1) := by decide +kernel
theorem dX12_reading_43 : decode cX12_reading 43 = .ok (.getfield 97, 3) := by decide +kernel
theorem dX12_reading_46 : decode cX12_reading 46 = .ok (.iastore, 1) := by decide +kernel
theorem dX12_reading_47 : decode cX12_reading 47 = .ok (.aload_n 0, 1) := by decide +kernel
theorem dX12_reading_48 : decode cX12_reading 48 = .ok (.iload_n 1, 1) := by decide +kernel
theorem dX12_reading_49 : decode cX12_reading 49 = .ok (.iconst 1, 1) := by decide +kernel
theorem dX12_reading_50 : decode cX12_reading 50 = .ok (.if_icmp .eq 8, 3) := by decide +kernel
theorem dX12_reading_53 : decode cX12_reading 53 = .ok (.iload_n 1, 1) := by decide +kernel
theorem dX12_reading_54 : decode cX12_reading 54 = .ok (.iconst 2, 1) := by decide +kernel
theorem dX12_reading_55 : decode cX12_reading 55 = .ok (.if_icmp .ne 7, 3) := by decide +kernel
theorem dX12_reading_58 : decode cX12_reading 58 = .ok (.iconst 1, 1) := by decide +kernel
theorem dX12_reading_59 : decode cX12_reading 59 = .ok (.goto 4, 3) := by decide +kernel
theorem dX12_reading_62 : decode cX12_reading 62 = .ok (.iconst 0, 1) := by decide +kernel
theorem dX12_reading_63 : decode cX12_reading 63 = .ok (.invokevirtual 356, 3) := by decide +kernel
theorem dX12_reading_66 : decode cX12_reading 66 = .ok (.aload_n 0, 1) := by decide +kernel
theorem dX12_reading_67 : decode cX12_reading 67 = .ok (.getfield 81, 3) := by decide +kernel
theorem dX12_reading_70 : decode cX12_reading 70 = .ok (.iload_n 2, 1) := by decide +kernel
theorem dX12_reading_71 : decode cX12_reading 71 = .ok (.aload_n 0, 1) := by decide +kernel
theorem dX12_reading_72 : decode cX12_reading 72 = .ok (.getfield 97, 3) := by decide +kernel
theorem dX12_reading_75 : decode cX12_reading 75 = .ok (.iastore, 1) := by decide +kernel
theorem dX12_reading_76 : decode cX12_reading 76 = .ok (.return_, 1) := by decide +kernel
theorem dX12_yarding_0 : decode cX12_yarding 0 = .ok (.aload_n 0, 1) := by decide +kernel
theorem dX12_yarding_1 : decode cX12_yarding 1 = .ok (.iconst 0, 1) := by decide +kernel
theorem dX12_yarding_2 : decode cX12_yarding 2 = .ok (.invokevirtual 340, 3) := by decide +kernel
theorem dX12_yarding_5 : decode cX12_yarding 5 = .ok (.ifCond .ne 5, 3) := by decide +kernel
theorem dX12_yarding_8 : decode cX12_yarding 8 = .ok (.iconst 0, 1) := by decide +kernel
theorem dX12_yarding_9 : decode cX12_yarding 9 = .ok (.ireturn, 1) := by decide +kernel
theorem dX12_yarding_10 : decode cX12_yarding 10 = .ok (.aload_n 0, 1) := by decide +kernel
theorem dX12_yarding_11 : decode cX12_yarding 11 = .ok (.iconst 0, 1) := by decide +kernel
theorem dX12_yarding_12 : decode cX12_yarding 12 = .ok (.iload_n 1, 1) := by decide +kernel
theorem dX12_yarding_13 : decode cX12_yarding 13 = .ok (.invokevirtual 352, 3) := by decide +kernel
theorem dX12_yarding_16 : decode cX12_yarding 16 = .ok (.ireturn, 1) := by decide +kernel
theorem dX12_statement_0 : decode cX12_statement 0 = .ok (.aload_n 0, 1) := by decide +kernel
theorem dX12_statement_1 : decode cX12_statement 1 = .ok (.invokevirtual 235, 3) := by decide +kernel
theorem dX12_statement_4 : decode cX12_statement 4 = .ok (.aload_n 0, 1) := by decide +kernel
theorem dX12_statement_5 : decode cX12_statement 5 = .ok (.getfield 36, 3) := by decide +kernel
theorem dX12_statement_8 : decode cX12_statement 8 = .ok (.ifCond .le 4, 3) := by decide +kernel
theorem dX12_statement_11 : decode cX12_statement 11 = .ok (.return_, 1) := by decide +kernel
theorem dX12_statement_12 : decode cX12_statement 12 = .ok (.aload_n 0, 1) := by decide +kernel
theorem dX12_statement_13 : decode cX12_statement 13 = .ok (.ldc2_w 244, 3) := by decide +kernel
theorem dX12_statement_16 : decode cX12_statement 16 = .ok (.invokevirtual 312, 3) := by decide +kernel
theorem dX12_statement_19 : decode cX12_statement 19 = .ok (.ifCond .eq 10, 3) := by decide +kernel
theorem dX12_statement_22 : decode cX12_statement 22 = .ok (.aload_n 0, 1) := by decide +kernel
theorem dX12_statement_23 : decode cX12_statement 23 = .ok (.invokevirtual 360, 3) := by decide +kernel
theorem dX12_statement_26 : decode cX12_statement 26 = .ok (.goto 187, 3) := by decide +kernel
theorem dX12_statement_29 : decode cX12_statement 29 = .ok (.aload_n 0, 1) := by decide +kernel
theorem dX12_statement_30 : decode cX12_statement 30 = .ok (.ldc2_w 250, 3) := by decide +kernel
theorem dX12_statement_33 : decode cX12_statement 33 = .ok (.invokevirtual 312, 3) := by decide +kernel
theorem dX12_statement_36 : decode cX12_statement 36 = .ok (.ifCond .eq 10, 3) := by decide +kernel
theorem dX12_statement_39 : decode cX12_statement 39 = .ok (.aload_n 0, 1) := by decide +kernel
theorem dX12_statement_40 : decode cX12_statement 40 = .ok (.invokevirtual 363, 3) := by decide +kernel
theorem dX12_statement_43 : decode cX12_statement 43 = .ok (.goto 170, 3) := by decide +kernel
theorem dX12_statement_46 : decode cX12_statement 46 = .ok (.aload_n 0, 1) := by decide +kernel
theorem dX12_statement_47 : decode cX12_statement 47 = .ok (.ldc2_w 254, 3) := by decide +kernel
theorem dX12_statement_50 : decode cX12_statement 50 = .ok (.invokevirtual 312, 3) := by decide +kernel
theorem dX12_statement_53 : decode cX12_statement 53 = .ok (.ifCond .eq 11, 3) := by decide +kernel
theorem dX12_statement_56 : decode cX12_statement 56 = .ok (.aload_n 0, 1) := by decide +kernel
theorem dX12_statement_57 : decode cX12_statement 57 = .ok (.iconst 0, 1) := by decide +kernel
theorem dX12_statement_58 : decode cX12_statement 58 = .ok (.invokevirtual 366, 3) := by decide +kernel
theorem dX12_statement_61 : decode cX12_statement 61 = .ok (.goto 152, 3) := by decide +kernel
theorem dX12_statement_64 : decode cX12_statement 64 = .ok (.aload_n 0, 1) := by decide +kernel
theorem dX12_statement_65 : decode cX12_statement 65 = .ok (.ldc2_w 256, 3) := by decide +kernel
theorem dX12_statement_68 : decode cX12_statement 68 = .ok (.invokevirtual 312, 3) := by decide +kernel
theorem dX12_statement_71 : decode cX12_statement 71 = .ok (.ifCond .eq 11, 3) := by decide +kernel
theorem dX12_statement_74 : decode cX12_statement 74 = .ok (.aload_n 0, 1) := by decide +kernel
theorem dX12_statement_75 : decode cX12_statement 75 = .ok (.iconst 1, 1) := by decide +kernel
theorem dX12_statement_76 : decode cX12_statement 76 = .ok (.invokevirtual 366, 3) := by decide +kernel
theorem dX12_statement_79 : decode cX12_statement 79 = .ok (.goto 134, 3) := by decide +kernel
theorem dX12_statement_82 : decode cX12_statement 82 = .ok (.aload_n 0, 1) := by decide +kernel
theorem dX12_statement_83 : decode cX12_statement 83 = .ok (.ldc2_w 258, 3) := by decide +kernel
theorem dX12_statement_86 : decode cX12_statement 86 = .ok (.invokevirtual 312, 3) := by decide +kernel
theorem dX12_statement_89 : decode cX12_statement 89 = .ok (.ifCond .eq 11, 3) := by decide +kernel
theorem dX12_statement_92 : decode cX12_statement 92 = .ok (.aload_n 0, 1) := by decide +kernel
theorem dX12_statement_93 : decode cX12_statement 93 = .ok (.iconst 2, 1) := by decide +kernel
theorem dX12_statement_94 : decode cX12_statement 94 = .ok (.invokevirtual 366, 3) := by decide +kernel
theorem dX12_statement_97 : decode cX12_statement 97 = .ok (.goto 116, 3) := by decide +kernel
theorem dX12_statement_100 : decode cX12_statement 100 = .ok (.aload_n 0, 1) := by decide +kernel
theorem dX12_statement_101 : decode cX12_statement 101 = .ok (.ldc2_w 260, 3) := by decide +kernel
theorem dX12_statement_104 : decode cX12_statement 104 = .ok (.invokevirtual 312, 3) := by decide +kernel
theorem dX12_statement_107 : decode cX12_statement 107 = .ok (.ifCond .eq 11, 3) := by decide +kernel
theorem dX12_statement_110 : decode cX12_statement 110 = .ok (.aload_n 0, 1) := by decide +kernel
theorem dX12_statement_111 : decode cX12_statement 111 = .ok (.iconst 3, 1) := by decide +kernel
theorem dX12_statement_112 : decode cX12_statement 112 = .ok (.invokevirtual 366, 3) := by decide +kernel
theorem dX12_statement_115 : decode cX12_statement 115 = .ok (.goto 98, 3) := by decide +kernel
theorem dX12_statement_118 : decode cX12_statement 118 = .ok (.aload_n 0, 1) := by decide +kernel
theorem dX12_statement_119 : decode cX12_statement 119 = .ok (.ldc2_w 262, 3) := by decide +kernel
theorem dX12_statement_122 : decode cX12_statement 122 = .ok (.invokevirtual 312, 3) := by decide +kernel
theorem dX12_statement_125 : decode cX12_statement 125 = .ok (.ifCond .eq 22, 3) := by decide +kernel
theorem dX12_statement_128 : decode cX12_statement 128 = .ok (.aload_n 0, 1) := by decide +kernel
theorem dX12_statement_129 : decode cX12_statement 129 = .ok (.getfield 69, 3) := by decide +kernel
theorem dX12_statement_132 : decode cX12_statement 132 = .ok (.aload_n 0, 1) := by decide +kernel
theorem dX12_statement_133 : decode cX12_statement 133 = .ok (.getfield 100, 3) := by decide +kernel
theorem dX12_statement_136 : decode cX12_statement 136 = .ok (.aload_n 0, 1) := by decide +kernel
theorem dX12_statement_137 : decode cX12_statement 137 = .ok (.sipush 999, 3) := by decide +kernel
theorem dX12_statement_140 : decode cX12_statement 140 = .ok (.invokevirtual 369, 3) := by decide +kernel
theorem dX12_statement_143 : decode cX12_statement 143 = .ok (.iastore, 1) := by decide +kernel
theorem dX12_statement_144 : decode cX12_statement 144 = .ok (.goto 69, 3) := by decide +kernel
theorem dX12_statement_147 : decode cX12_statement 147 = .ok (.aload_n 0, 1) := by decide +kernel
theorem dX12_statement_148 : decode cX12_statement 148 = .ok (.ldc2_w 264, 3) := by decide +kernel
theorem dX12_statement_151 : decode cX12_statement 151 = .ok (.invokevirtual 312, 3) := by decide +kernel
theorem dX12_statement_154 : decode cX12_statement 154 = .ok (.ifCond .eq 22, 3) := by decide +kernel
theorem dX12_statement_157 : decode cX12_statement 157 = .ok (.aload_n 0, 1) := by decide +kernel
theorem dX12_statement_158 : decode cX12_statement 158 = .ok (.getfield 72, 3) := by decide +kernel
theorem dX12_statement_161 : decode cX12_statement 161 = .ok (.aload_n 0, 1) := by decide +kernel
theorem dX12_statement_162 : decode cX12_statement 162 = .ok (.getfield 100, 3) := by decide +kernel
theorem dX12_statement_165 : decode cX12_statement 165 = .ok (.aload_n 0, 1) := by decide +kernel
theorem dX12_statement_166 : decode cX12_statement 166 = .ok (.sipush 999, 3) := by decide +kernel
theorem dX12_statement_169 : decode cX12_statement 169 = .ok (.invokevirtual 369, 3) := by decide +kernel
theorem dX12_statement_172 : decode cX12_statement 172 = .ok (.iastore, 1) := by decide +kernel
theorem dX12_statement_173 : decode cX12_statement 173 = .ok (.goto 40, 3) := by decide +kernel
theorem dX12_statement_176 : decode cX12_statement 176 = .ok (.aload_n 0, 1) := by decide +kernel
theorem dX12_statement_177 : decode cX12_statement 177 = .ok (.ldc2_w 266, 3) := by decide +kernel
theorem dX12_statement_180 : decode cX12_statement 180 = .ok (.invokevirtual 312, 3) := by decide +kernel
theorem dX12_statement_183 : decode cX12_statement 183 = .ok (.ifCond .eq 21, 3) := by decide +kernel
theorem dX12_statement_186 : decode cX12_statement 186 = .ok (.aload_n 0, 1) := by decide +kernel
theorem dX12_statement_187 : decode cX12_statement 187 = .ok (.getfield 75, 3) := by decide +kernel
theorem dX12_statement_190 : decode cX12_statement 190 = .ok (.aload_n 0, 1) := by decide +kernel
theorem dX12_statement_191 : decode cX12_statement 191 = .ok (.getfield 100, 3) := by decide +kernel
theorem dX12_statement_194 : decode cX12_statement 194 = .ok (.aload_n 0, 1) := by decide +kernel
theorem dX12_statement_195 : decode cX12_statement 195 = .ok (.bipush 100, 2) := by decide +kernel
theorem dX12_statement_197 : decode cX12_statement 197 = .ok (.invokevirtual 369, 3) := by decide +kernel
theorem dX12_statement_200 : decode cX12_statement 200 = .ok (.iastore, 1) := by decide +kernel
theorem dX12_statement_201 : decode cX12_statement 201 = .ok (.goto 12, 3) := by decide +kernel
theorem dX12_statement_204 : decode cX12_statement 204 = .ok (.aload_n 0, 1) := by decide +kernel
theorem dX12_statement_205 : decode cX12_statement 205 = .ok (.iconst 1, 1) := by decide +kernel
theorem dX12_statement_206 : decode cX12_statement 206 = .ok (.aload_n 0, 1) := by decide +kernel
theorem dX12_statement_207 : decode cX12_statement 207 = .ok (.getfield 23, 3) := by decide +kernel
theorem dX12_statement_210 : decode cX12_statement 210 = .ok (.invokevirtual 224, 3) := by decide +kernel
theorem dX12_statement_213 : decode cX12_statement 213 = .ok (.return_, 1) := by decide +kernel
theorem dX12_finishes_0 : decode cX12_finishes 0 = .ok (.aload_n 0, 1) := by decide +kernel
theorem dX12_finishes_1 : decode cX12_finishes 1 = .ok (.invokevirtual 235, 3) := by decide +kernel
theorem dX12_finishes_4 : decode cX12_finishes 4 = .ok (.aload_n 0, 1) := by decide +kernel
theorem dX12_finishes_5 : decode cX12_finishes 5 = .ok (.getfield 36, 3) := by decide +kernel
theorem dX12_finishes_8 : decode cX12_finishes 8 = .ok (.ifCond .le 4, 3) := by decide +kernel
theorem dX12_finishes_11 : decode cX12_finishes 11 = .ok (.return_, 1) := by decide +kernel
theorem dX12_finishes_12 : decode cX12_finishes 12 = .ok (.aload_n 0, 1) := by decide +kernel
theorem dX12_finishes_13 : decode cX12_finishes 13 = .ok (.getfield 26, 3) := by decide +kernel
theorem dX12_finishes_16 : decode cX12_finishes 16 = .ok (.istore_n 2, 1) := by decide +kernel
theorem dX12_finishes_17 : decode cX12_finishes 17 = .ok (.iload_n 2, 1) := by decide +kernel
theorem dX12_finishes_18 : decode cX12_finishes 18 = .ok (.aload_n 0, 1) := by decide +kernel
theorem dX12_finishes_19 : decode cX12_finishes 19 = .ok (.getfield 17, 3) := by decide +kernel
theorem dX12_finishes_22 : decode cX12_finishes 22 = .ok (.if_icmp .ge 31, 3) := by decide +kernel
theorem dX12_finishes_25 : decode cX12_finishes 25 = .ok (.aload_n 0, 1) := by decide +kernel
theorem dX12_finishes_26 : decode cX12_finishes 26 = .ok (.getfield 7, 3) := by decide +kernel
theorem dX12_finishes_29 : decode cX12_finishes 29 = .ok (.iload_n 2, 1) := by decide +kernel
theorem dX12_finishes_30 : decode cX12_finishes 30 = .ok (.iaload, 1) := by decide +kernel
theorem dX12_finishes_31 : decode cX12_finishes 31 = .ok (.bipush 32, 2) := by decide +kernel
theorem dX12_finishes_33 : decode cX12_finishes 33 = .ok (.if_icmp .eq 14, 3) := by decide +kernel
theorem dX12_finishes_36 : decode cX12_finishes 36 = .ok (.aload_n 0, 1) := by decide +kernel
theorem dX12_finishes_37 : decode cX12_finishes 37 = .ok (.getfield 7, 3) := by decide +kernel
theorem dX12_finishes_40 : decode cX12_finishes 40 = .ok (.iload_n 2, 1) := by decide +kernel
theorem dX12_finishes_41 : decode cX12_finishes 41 = .ok (.iaload, 1) := by decide +kernel
theorem dX12_finishes_42 : decode cX12_finishes 42 = .ok (.bipush 10, 2) := by decide +kernel
theorem dX12_finishes_44 : decode cX12_finishes 44 = .ok (.if_icmp .ne 9, 3) := by decide +kernel
theorem dX12_finishes_47 : decode cX12_finishes 47 = .ok (.iinc 2 1, 3) := by decide +kernel
theorem dX12_finishes_50 : decode cX12_finishes 50 = .ok (.goto (-33), 3) := by decide +kernel
theorem dX12_finishes_53 : decode cX12_finishes 53 = .ok (.aload_n 0, 1) := by decide +kernel
theorem dX12_finishes_54 : decode cX12_finishes 54 = .ok (.bipush 59, 2) := by decide +kernel
theorem dX12_finishes_56 : decode cX12_finishes 56 = .ok (.invokevirtual 238, 3) := by decide +kernel
theorem dX12_finishes_59 : decode cX12_finishes 59 = .ok (.ifCond .eq 24, 3) := by decide +kernel
theorem dX12_finishes_62 : decode cX12_finishes 62 = .ok (.iload_n 1, 1) := by decide +kernel
theorem dX12_finishes_63 : decode cX12_finishes 63 = .ok (.bipush 80, 2) := by decide +kernel
theorem dX12_finishes_65 : decode cX12_finishes 65 = .ok (.if_icmp .ne 18, 3) := by decide +kernel
theorem dX12_finishes_68 : decode cX12_finishes 68 = .ok (.iload_n 2, 1) := by decide +kernel
theorem dX12_finishes_69 : decode cX12_finishes 69 = .ok (.aload_n 0, 1) := by decide +kernel
theorem dX12_finishes_70 : decode cX12_finishes 70 = .ok (.getfield 17, 3) := by decide +kernel
theorem dX12_finishes_73 : decode cX12_finishes 73 = .ok (.if_icmp .ge 10, 3) := by decide +kernel
theorem dX12_finishes_76 : decode cX12_finishes 76 = .ok (.aload_n 0, 1) := by decide +kernel
theorem dX12_finishes_77 : decode cX12_finishes 77 = .ok (.bipush 6, 2) := by decide +kernel
theorem dX12_finishes_79 : decode cX12_finishes 79 = .ok (.iload_n 2, 1) := by decide +kernel
theorem dX12_finishes_80 : decode cX12_finishes 80 = .ok (.invokevirtual 224, 3) := by decide +kernel
theorem dX12_finishes_83 : decode cX12_finishes 83 = .ok (.aload_n 0, 1) := by decide +kernel
theorem dX12_finishes_84 : decode cX12_finishes 84 = .ok (.bipush 59, 2) := by decide +kernel
theorem dX12_finishes_86 : decode cX12_finishes 86 = .ok (.invokevirtual 372, 3) := by decide +kernel
theorem dX12_finishes_89 : decode cX12_finishes 89 = .ok (.return_, 1) := by decide +kernel
theorem dX12_town_0 : decode cX12_town 0 = .ok (.aload_n 0, 1) := by decide +kernel
theorem dX12_town_1 : decode cX12_town 1 = .ok (.aload_n 0, 1) := by decide +kernel
theorem dX12_town_2 : decode cX12_town 2 = .ok (.getfield 13, 3) := by decide +kernel
theorem dX12_town_5 : decode cX12_town 5 = .ok (.putfield 17, 3) := by decide +kernel
theorem dX12_town_8 : decode cX12_town 8 = .ok (.aload_n 0, 1) := by decide +kernel
theorem dX12_town_9 : decode cX12_town 9 = .ok (.iconst 0, 1) := by decide +kernel
theorem dX12_town_10 : decode cX12_town 10 = .ok (.putfield 13, 3) := by decide +kernel
theorem dX12_town_13 : decode cX12_town 13 = .ok (.aload_n 0, 1) := by decide +kernel
theorem dX12_town_14 : decode cX12_town 14 = .ok (.iconst 0, 1) := by decide +kernel
theorem dX12_town_15 : decode cX12_town 15 = .ok (.putfield 26, 3) := by decide +kernel
theorem dX12_town_18 : decode cX12_town 18 = .ok (.aload_n 0, 1) := by decide +kernel
theorem dX12_town_19 : decode cX12_town 19 = .ok (.iconst 0, 1) := by decide +kernel
theorem dX12_town_20 : decode cX12_town 20 = .ok (.putfield 36, 3) := by decide +kernel
theorem dX12_town_23 : decode cX12_town 23 = .ok (.aload_n 0, 1) := by decide +kernel
theorem dX12_town_24 : decode cX12_town 24 = .ok (.iconst (-1), 1) := by decide +kernel
theorem dX12_town_25 : decode cX12_town 25 = .ok (.putfield 39, 3) := by decide +kernel
theorem dX12_town_28 : decode cX12_town 28 = .ok (.aload_n 0, 1) := by decide +kernel
theorem dX12_town_29 : decode cX12_town 29 = .ok (.iconst 1, 1) := by decide +kernel
theorem dX12_town_30 : decode cX12_town 30 = .ok (.aload_n 0, 1) := by decide +kernel
theorem dX12_town_31 : decode cX12_town 31 = .ok (.getfield 51, 3) := by decide +kernel
theorem dX12_town_34 : decode cX12_town 34 = .ok (.isub, 1) := by decide +kernel
theorem dX12_town_35 : decode cX12_town 35 = .ok (.putfield 100, 3) := by decide +kernel
theorem dX12_town_38 : decode cX12_town 38 = .ok (.aload_n 0, 1) := by decide +kernel
theorem dX12_town_39 : decode cX12_town 39 = .ok (.getfield 54, 3) := by decide +kernel
theorem dX12_town_42 : decode cX12_town 42 = .ok (.aload_n 0, 1) := by decide +kernel
theorem dX12_town_43 : decode cX12_town 43 = .ok (.getfield 100, 3) := by decide +kernel
theorem dX12_town_46 : decode cX12_town 46 = .ok (.iconst 0, 1) := by decide +kernel
theorem dX12_town_47 : decode cX12_town 47 = .ok (.iastore, 1) := by decide +kernel
theorem dX12_town_48 : decode cX12_town 48 = .ok (.aload_n 0, 1) := by decide +kernel
theorem dX12_town_49 : decode cX12_town 49 = .ok (.getfield 63, 3) := by decide +kernel
theorem dX12_town_52 : decode cX12_town 52 = .ok (.aload_n 0, 1) := by decide +kernel
theorem dX12_town_53 : decode cX12_town 53 = .ok (.getfield 100, 3) := by decide +kernel
theorem dX12_town_56 : decode cX12_town 56 = .ok (.iconst 0, 1) := by decide +kernel
theorem dX12_town_57 : decode cX12_town 57 = .ok (.iastore, 1) := by decide +kernel
theorem dX12_town_58 : decode cX12_town 58 = .ok (.aload_n 0, 1) := by decide +kernel
theorem dX12_town_59 : decode cX12_town 59 = .ok (.getfield 69, 3) := by decide +kernel
theorem dX12_town_62 : decode cX12_town 62 = .ok (.aload_n 0, 1) := by decide +kernel
theorem dX12_town_63 : decode cX12_town 63 = .ok (.getfield 100, 3) := by decide +kernel
theorem dX12_town_66 : decode cX12_town 66 = .ok (.iconst 0, 1) := by decide +kernel
theorem dX12_town_67 : decode cX12_town 67 = .ok (.iastore, 1) := by decide +kernel
theorem dX12_town_68 : decode cX12_town 68 = .ok (.aload_n 0, 1) := by decide +kernel
theorem dX12_town_69 : decode cX12_town 69 = .ok (.getfield 72, 3) := by decide +kernel
theorem dX12_town_72 : decode cX12_town 72 = .ok (.aload_n 0, 1) := by decide +kernel
theorem dX12_town_73 : decode cX12_town 73 = .ok (.getfield 100, 3) := by decide +kernel
theorem dX12_town_76 : decode cX12_town 76 = .ok (.iconst 0, 1) := by decide +kernel
theorem dX12_town_77 : decode cX12_town 77 = .ok (.iastore, 1) := by decide +kernel
theorem dX12_town_78 : decode cX12_town 78 = .ok (.aload_n 0, 1) := by decide +kernel
theorem dX12_town_79 : decode cX12_town 79 = .ok (.getfield 75, 3) := by decide +kernel
theorem dX12_town_82 : decode cX12_town 82 = .ok (.aload_n 0, 1) := by decide +kernel
theorem dX12_town_83 : decode cX12_town 83 = .ok (.getfield 100, 3) := by decide +kernel
theorem dX12_town_86 : decode cX12_town 86 = .ok (.iconst 0, 1) := by decide +kernel
theorem dX12_town_87 : decode cX12_town 87 = .ok (.iastore, 1) := by decide +kernel
theorem dX12_town_88 : decode cX12_town 88 = .ok (.iconst 4, 1) := by decide +kernel
theorem dX12_town_89 : decode cX12_town 89 = .ok (.aload_n 0, 1) := by decide +kernel
theorem dX12_town_90 : decode cX12_town 90 = .ok (.getfield 100, 3) := by decide +kernel
theorem dX12_town_93 : decode cX12_town 93 = .ok (.imul, 1) := by decide +kernel
theorem dX12_town_94 : decode cX12_town 94 = .ok (.istore_n 1, 1) := by decide +kernel
theorem dX12_town_95 : decode cX12_town 95 = .ok (.iload_n 1, 1) := by decide +kernel
theorem dX12_town_96 : decode cX12_town 96 = .ok (.iconst 4, 1) := by decide +kernel
theorem dX12_town_97 : decode cX12_town 97 = .ok (.aload_n 0, 1) := by decide +kernel
theorem dX12_town_98 : decode cX12_town 98 = .ok (.getfield 100, 3) := by decide +kernel
theorem dX12_town_101 : decode cX12_town 101 = .ok (.imul, 1) := by decide +kernel
theorem dX12_town_102 : decode cX12_town 102 = .ok (.iconst 4, 1) := by decide +kernel
theorem dX12_town_103 : decode cX12_town 103 = .ok (.iadd, 1) := by decide +kernel
theorem dX12_town_104 : decode cX12_town 104 = .ok (.if_icmp .ge 16, 3) := by decide +kernel
theorem dX12_town_107 : decode cX12_town 107 = .ok (.aload_n 0, 1) := by decide +kernel
theorem dX12_town_108 : decode cX12_town 108 = .ok (.getfield 78, 3) := by decide +kernel
theorem dX12_town_111 : decode cX12_town 111 = .ok (.iload_n 1, 1) := by decide +kernel
theorem dX12_town_112 : decode cX12_town 112 = .ok (.iconst (-1), 1) := by decide +kernel
theorem dX12_town_113 : decode cX12_town 113 = .ok (.iastore, 1) := by decide +kernel
theorem dX12_town_114 : decode cX12_town 114 = .ok (.iinc 1 1, 3) := by decide +kernel
theorem dX12_town_117 : decode cX12_town 117 = .ok (.goto (-22), 3) := by decide +kernel
theorem dX12_town_120 : decode cX12_town 120 = .ok (.aload_n 0, 1) := by decide +kernel
theorem dX12_town_121 : decode cX12_town 121 = .ok (.iconst 0, 1) := by decide +kernel
theorem dX12_town_122 : decode cX12_town 122 = .ok (.putfield 97, 3) := by decide +kernel
theorem dX12_town_125 : decode cX12_town 125 = .ok (.iconst 0, 1) := by decide +kernel
theorem dX12_town_126 : decode cX12_town 126 = .ok (.istore_n 1, 1) := by decide +kernel
theorem dX12_town_127 : decode cX12_town 127 = .ok (.aload_n 0, 1) := by decide +kernel
theorem dX12_town_128 : decode cX12_town 128 = .ok (.invokevirtual 241, 3) := by decide +kernel
theorem dX12_town_131 : decode cX12_town 131 = .ok (.aload_n 0, 1) := by decide +kernel
theorem dX12_town_132 : decode cX12_town 132 = .ok (.getfield 36, 3) := by decide +kernel
theorem dX12_town_135 : decode cX12_town 135 = .ok (.ifCond .ne 25, 3) := by decide +kernel
theorem dX12_town_138 : decode cX12_town 138 = .ok (.aload_n 0, 1) := by decide +kernel
theorem dX12_town_139 : decode cX12_town 139 = .ok (.getfield 20, 3) := by decide +kernel
theorem dX12_town_142 : decode cX12_town 142 = .ok (.ifCond .eq 18, 3) := by decide +kernel
theorem dX12_town_145 : decode cX12_town 145 = .ok (.aload_n 0, 1) := by decide +kernel
theorem dX12_town_146 : decode cX12_town 146 = .ok (.invokevirtual 374, 3) := by decide +kernel
theorem dX12_town_149 : decode cX12_town 149 = .ok (.iinc 1 1, 3) := by decide +kernel
theorem dX12_town_152 : decode cX12_town 152 = .ok (.aload_n 0, 1) := by decide +kernel
theorem dX12_town_153 : decode cX12_town 153 = .ok (.iload_n 1, 1) := by decide +kernel
theorem dX12_town_154 : decode cX12_town 154 = .ok (.invokevirtual 377, 3) := by decide +kernel
theorem dX12_town_157 : decode cX12_town 157 = .ok (.goto (-26), 3) := by decide +kernel
theorem dX12_town_160 : decode cX12_town 160 = .ok (.aload_n 0, 1) := by decide +kernel
theorem dX12_town_161 : decode cX12_town 161 = .ok (.aload_n 0, 1) := by decide +kernel
theorem dX12_town_162 : decode cX12_town 162 = .ok (.getfield 36, 3) := by decide +kernel
theorem dX12_town_165 : decode cX12_town 165 = .ok (.putfield 42, 3) := by decide +kernel
theorem dX12_town_168 : decode cX12_town 168 = .ok (.aload_n 0, 1) := by decide +kernel
theorem dX12_town_169 : decode cX12_town 169 = .ok (.aload_n 0, 1) := by decide +kernel
theorem dX12_town_170 : decode cX12_town 170 = .ok (.getfield 39, 3) := by decide +kernel
theorem dX12_town_173 : decode cX12_town 173 = .ok (.putfield 45, 3) := by decide +kernel
theorem dX12_town_176 : decode cX12_town 176 = .ok (.aload_n 0, 1) := by decide +kernel
theorem dX12_town_177 : decode cX12_town 177 = .ok (.getfield 36, 3) := by decide +kernel
theorem dX12_town_180 : decode cX12_town 180 = .ok (.ifCond .le 9, 3) := by decide +kernel
theorem dX12_town_183 : decode cX12_town 183 = .ok (.aload_n 0, 1) := by decide +kernel
theorem dX12_town_184 : decode cX12_town 184 = .ok (.iconst 1, 1) := by decide +kernel
theorem dX12_town_185 : decode cX12_town 185 = .ok (.invokevirtual 216, 3) := by decide +kernel
theorem dX12_town_188 : decode cX12_town 188 = .ok (.ireturn, 1) := by decide +kernel
theorem dX12_town_189 : decode cX12_town 189 = .ok (.aload_n 0, 1) := by decide +kernel
theorem dX12_town_190 : decode cX12_town 190 = .ok (.aload_n 0, 1) := by decide +kernel
theorem dX12_town_191 : decode cX12_town 191 = .ok (.getfield 100, 3) := by decide +kernel
theorem dX12_town_194 : decode cX12_town 194 = .ok (.putfield 51, 3) := by decide +kernel
theorem dX12_town_197 : decode cX12_town 197 = .ok (.aload_n 0, 1) := by decide +kernel
theorem dX12_town_198 : decode cX12_town 198 = .ok (.invokevirtual 380, 3) := by decide +kernel
theorem dX12_town_201 : decode cX12_town 201 = .ok (.iload_n 1, 1) := by decide +kernel
theorem dX12_town_202 : decode cX12_town 202 = .ok (.ireturn, 1) := by decide +kernel
theorem dX12_fault_0 : decode cX12_fault 0 = .ok (.iload_n 1, 1) := by decide +kernel
theorem dX12_fault_1 : decode cX12_fault 1 = .ok (.ifCond .ne 10, 3) := by decide +kernel
theorem dX12_fault_4 : decode cX12_fault 4 = .ok (.aload_n 0, 1) := by decide +kernel
theorem dX12_fault_5 : decode cX12_fault 5 = .ok (.getfield 42, 3) := by decide +kernel
theorem dX12_fault_8 : decode cX12_fault 8 = .ok (.goto 16, 3) := by decide +kernel
theorem dX12_fault_11 : decode cX12_fault 11 = .ok (.iload_n 1, 1) := by decide +kernel
theorem dX12_fault_12 : decode cX12_fault 12 = .ok (.iconst 1, 1) := by decide +kernel
theorem dX12_fault_13 : decode cX12_fault 13 = .ok (.if_icmp .ne 10, 3) := by decide +kernel
theorem dX12_fault_16 : decode cX12_fault 16 = .ok (.aload_n 0, 1) := by decide +kernel
theorem dX12_fault_17 : decode cX12_fault 17 = .ok (.getfield 45, 3) := by decide +kernel
theorem dX12_fault_20 : decode cX12_fault 20 = .ok (.goto 4, 3) := by decide +kernel
theorem dX12_fault_23 : decode cX12_fault 23 = .ok (.iconst (-1), 1) := by decide +kernel
theorem dX12_fault_24 : decode cX12_fault 24 = .ok (.ireturn, 1) := by decide +kernel
theorem dX12_refuses_0 : decode cX12_refuses 0 = .ok (.aload_n 0, 1) := by decide +kernel
theorem dX12_refuses_1 : decode cX12_refuses 1 = .ok (.getfield 138, 3) := by decide +kernel
theorem dX12_refuses_4 : decode cX12_refuses 4 = .ok (.iload_n 1, 1) := by decide +kernel
theorem dX12_refuses_5 : decode cX12_refuses 5 = .ok (.dup2, 1) := by decide +kernel
theorem dX12_refuses_6 : decode cX12_refuses 6 = .ok (.iaload, 1) := by decide +kernel
theorem dX12_refuses_7 : decode cX12_refuses 7 = .ok (.iconst 1, 1) := by decide +kernel
theorem dX12_refuses_8 : decode cX12_refuses 8 = .ok (.iadd, 1) := by decide +kernel
theorem dX12_refuses_9 : decode cX12_refuses 9 = .ok (.iastore, 1) := by decide +kernel
theorem dX12_refuses_10 : decode cX12_refuses 10 = .ok (.iconst (-1), 1) := by decide +kernel
theorem dX12_refuses_11 : decode cX12_refuses 11 = .ok (.ireturn, 1) := by decide +kernel
theorem dX12_status_0 : decode cX12_status 0 = .ok (.iload_n 1, 1) := by decide +kernel
theorem dX12_status_1 : decode cX12_status 1 = .ok (.iconst 0, 1) := by decide +kernel
theorem dX12_status_2 : decode cX12_status 2 = .ok (.iconst 5, 1) := by decide +kernel
theorem dX12_status_3 : decode cX12_status 3 = .ok (.invokestatic 296, 3) := by decide +kernel
theorem dX12_status_6 : decode cX12_status 6 = .ok (.ifCond .eq 12, 3) := by decide +kernel
theorem dX12_status_9 : decode cX12_status 9 = .ok (.aload_n 0, 1) := by decide +kernel
theorem dX12_status_10 : decode cX12_status 10 = .ok (.getfield 138, 3) := by decide +kernel
theorem dX12_status_13 : decode cX12_status 13 = .ok (.iload_n 1, 1) := by decide +kernel
theorem dX12_status_14 : decode cX12_status 14 = .ok (.iaload, 1) := by decide +kernel
theorem dX12_status_15 : decode cX12_status 15 = .ok (.goto 4, 3) := by decide +kernel
theorem dX12_status_18 : decode cX12_status 18 = .ok (.iconst (-1), 1) := by decide +kernel
theorem dX12_status_19 : decode cX12_status 19 = .ok (.ireturn, 1) := by decide +kernel
theorem dX12_copies_0 : decode cX12_copies 0 = .ok (.aload_n 0, 1) := by decide +kernel
theorem dX12_copies_1 : decode cX12_copies 1 = .ok (.getfield 141, 3) := by decide +kernel
theorem dX12_copies_4 : decode cX12_copies 4 = .ok (.iload_n 1, 1) := by decide +kernel
theorem dX12_copies_5 : decode cX12_copies 5 = .ok (.aload_n 0, 1) := by decide +kernel
theorem dX12_copies_6 : decode cX12_copies 6 = .ok (.getfield 141, 3) := by decide +kernel
theorem dX12_copies_9 : decode cX12_copies 9 = .ok (.iload_n 2, 1) := by decide +kernel
theorem dX12_copies_10 : decode cX12_copies 10 = .ok (.iaload, 1) := by decide +kernel
theorem dX12_copies_11 : decode cX12_copies 11 = .ok (.iastore, 1) := by decide +kernel
theorem dX12_copies_12 : decode cX12_copies 12 = .ok (.aload_n 0, 1) := by decide +kernel
theorem dX12_copies_13 : decode cX12_copies 13 = .ok (.getfield 144, 3) := by decide +kernel
theorem dX12_copies_16 : decode cX12_copies 16 = .ok (.iload_n 1, 1) := by decide +kernel
theorem dX12_copies_17 : decode cX12_copies 17 = .ok (.aload_n 0, 1) := by decide +kernel
theorem dX12_copies_18 : decode cX12_copies 18 = .ok (.getfield 144, 3) := by decide +kernel
theorem dX12_copies_21 : decode cX12_copies 21 = .ok (.iload_n 2, 1) := by decide +kernel
theorem dX12_copies_22 : decode cX12_copies 22 = .ok (.iaload, 1) := by decide +kernel
theorem dX12_copies_23 : decode cX12_copies 23 = .ok (.iastore, 1) := by decide +kernel
theorem dX12_copies_24 : decode cX12_copies 24 = .ok (.aload_n 0, 1) := by decide +kernel
theorem dX12_copies_25 : decode cX12_copies 25 = .ok (.getfield 159, 3) := by decide +kernel
theorem dX12_copies_28 : decode cX12_copies 28 = .ok (.iload_n 1, 1) := by decide +kernel
theorem dX12_copies_29 : decode cX12_copies 29 = .ok (.aload_n 0, 1) := by decide +kernel
theorem dX12_copies_30 : decode cX12_copies 30 = .ok (.getfield 159, 3) := by decide +kernel
theorem dX12_copies_33 : decode cX12_copies 33 = .ok (.iload_n 2, 1) := by decide +kernel
theorem dX12_copies_34 : decode cX12_copies 34 = .ok (.iaload, 1) := by decide +kernel
theorem dX12_copies_35 : decode cX12_copies 35 = .ok (.iastore, 1) := by decide +kernel
theorem dX12_copies_36 : decode cX12_copies 36 = .ok (.iconst 0, 1) := by decide +kernel
theorem dX12_copies_37 : decode cX12_copies 37 = .ok (.istore_n 3, 1) := by decide +kernel
theorem dX12_copies_38 : decode cX12_copies 38 = .ok (.iload_n 3, 1) := by decide +kernel
theorem dX12_copies_39 : decode cX12_copies 39 = .ok (.bipush 8, 2) := by decide +kernel
theorem dX12_copies_41 : decode cX12_copies 41 = .ok (.if_icmp .ge 97, 3) := by decide +kernel
theorem dX12_copies_44 : decode cX12_copies 44 = .ok (.aload_n 0, 1) := by decide +kernel
theorem dX12_copies_45 : decode cX12_copies 45 = .ok (.getfield 147, 3) := by decide +kernel
theorem dX12_copies_48 : decode cX12_copies 48 = .ok (.bipush 8, 2) := by decide +kernel
theorem dX12_copies_50 : decode cX12_copies 50 = .ok (.iload_n 1, 1) := by decide +kernel
theorem dX12_copies_51 : decode cX12_copies 51 = .ok (.imul, 1) := by decide +kernel
theorem dX12_copies_52 : decode cX12_copies 52 = .ok (.iload_n 3, 1) := by decide +kernel
theorem dX12_copies_53 : decode cX12_copies 53 = .ok (.iadd, 1) := by decide +kernel
theorem dX12_copies_54 : decode cX12_copies 54 = .ok (.aload_n 0, 1) := by decide +kernel
theorem dX12_copies_55 : decode cX12_copies 55 = .ok (.getfield 147, 3) := by decide +kernel
theorem dX12_copies_58 : decode cX12_copies 58 = .ok (.bipush 8, 2) := by decide +kernel
theorem dX12_copies_60 : decode cX12_copies 60 = .ok (.iload_n 2, 1) := by decide +kernel
theorem dX12_copies_61 : decode cX12_copies 61 = .ok (.imul, 1) := by decide +kernel
theorem dX12_copies_62 : decode cX12_copies 62 = .ok (.iload_n 3, 1) := by decide +kernel
theorem dX12_copies_63 : decode cX12_copies 63 = .ok (.iadd, 1) := by decide +kernel
theorem dX12_copies_64 : decode cX12_copies 64 = .ok (.iaload, 1) := by decide +kernel
theorem dX12_copies_65 : decode cX12_copies 65 = .ok (.iastore, 1) := by decide +kernel
theorem dX12_copies_66 : decode cX12_copies 66 = .ok (.aload_n 0, 1) := by decide +kernel
theorem dX12_copies_67 : decode cX12_copies 67 = .ok (.getfield 150, 3) := by decide +kernel
theorem dX12_copies_70 : decode cX12_copies 70 = .ok (.bipush 8, 2) := by decide +kernel
theorem dX12_copies_72 : decode cX12_copies 72 = .ok (.iload_n 1, 1) := by decide +kernel
theorem dX12_copies_73 : decode cX12_copies 73 = .ok (.imul, 1) := by decide +kernel
theorem dX12_copies_74 : decode cX12_copies 74 = .ok (.iload_n 3, 1) := by decide +kernel
theorem dX12_copies_75 : decode cX12_copies 75 = .ok (.iadd, 1) := by decide +kernel
theorem dX12_copies_76 : decode cX12_copies 76 = .ok (.aload_n 0, 1) := by decide +kernel
theorem dX12_copies_77 : decode cX12_copies 77 = .ok (.getfield 150, 3) := by decide +kernel
theorem dX12_copies_80 : decode cX12_copies 80 = .ok (.bipush 8, 2) := by decide +kernel
theorem dX12_copies_82 : decode cX12_copies 82 = .ok (.iload_n 2, 1) := by decide +kernel
theorem dX12_copies_83 : decode cX12_copies 83 = .ok (.imul, 1) := by decide +kernel
theorem dX12_copies_84 : decode cX12_copies 84 = .ok (.iload_n 3, 1) := by decide +kernel
theorem dX12_copies_85 : decode cX12_copies 85 = .ok (.iadd, 1) := by decide +kernel
theorem dX12_copies_86 : decode cX12_copies 86 = .ok (.iaload, 1) := by decide +kernel
theorem dX12_copies_87 : decode cX12_copies 87 = .ok (.iastore, 1) := by decide +kernel
theorem dX12_copies_88 : decode cX12_copies 88 = .ok (.aload_n 0, 1) := by decide +kernel
theorem dX12_copies_89 : decode cX12_copies 89 = .ok (.getfield 153, 3) := by decide +kernel
theorem dX12_copies_92 : decode cX12_copies 92 = .ok (.bipush 8, 2) := by decide +kernel
theorem dX12_copies_94 : decode cX12_copies 94 = .ok (.iload_n 1, 1) := by decide +kernel
theorem dX12_copies_95 : decode cX12_copies 95 = .ok (.imul, 1) := by decide +kernel
theorem dX12_copies_96 : decode cX12_copies 96 = .ok (.iload_n 3, 1) := by decide +kernel
theorem dX12_copies_97 : decode cX12_copies 97 = .ok (.iadd, 1) := by decide +kernel
theorem dX12_copies_98 : decode cX12_copies 98 = .ok (.aload_n 0, 1) := by decide +kernel
theorem dX12_copies_99 : decode cX12_copies 99 = .ok (.getfield 153, 3) := by decide +kernel
theorem dX12_copies_102 : decode cX12_copies 102 = .ok (.bipush 8, 2) := by decide +kernel
theorem dX12_copies_104 : decode cX12_copies 104 = .ok (.iload_n 2, 1) := by decide +kernel
theorem dX12_copies_105 : decode cX12_copies 105 = .ok (.imul, 1) := by decide +kernel
theorem dX12_copies_106 : decode cX12_copies 106 = .ok (.iload_n 3, 1) := by decide +kernel
theorem dX12_copies_107 : decode cX12_copies 107 = .ok (.iadd, 1) := by decide +kernel
theorem dX12_copies_108 : decode cX12_copies 108 = .ok (.iaload, 1) := by decide +kernel
theorem dX12_copies_109 : decode cX12_copies 109 = .ok (.iastore, 1) := by decide +kernel
theorem dX12_copies_110 : decode cX12_copies 110 = .ok (.aload_n 0, 1) := by decide +kernel
theorem dX12_copies_111 : decode cX12_copies 111 = .ok (.getfield 156, 3) := by decide +kernel
theorem dX12_copies_114 : decode cX12_copies 114 = .ok (.bipush 8, 2) := by decide +kernel
theorem dX12_copies_116 : decode cX12_copies 116 = .ok (.iload_n 1, 1) := by decide +kernel
theorem dX12_copies_117 : decode cX12_copies 117 = .ok (.imul, 1) := by decide +kernel
theorem dX12_copies_118 : decode cX12_copies 118 = .ok (.iload_n 3, 1) := by decide +kernel
theorem dX12_copies_119 : decode cX12_copies 119 = .ok (.iadd, 1) := by decide +kernel
theorem dX12_copies_120 : decode cX12_copies 120 = .ok (.aload_n 0, 1) := by decide +kernel
theorem dX12_copies_121 : decode cX12_copies 121 = .ok (.getfield 156, 3) := by decide +kernel
theorem dX12_copies_124 : decode cX12_copies 124 = .ok (.bipush 8, 2) := by decide +kernel
theorem dX12_copies_126 : decode cX12_copies 126 = .ok (.iload_n 2, 1) := by decide +kernel
theorem dX12_copies_127 : decode cX12_copies 127 = .ok (.imul, 1) := by decide +kernel
theorem dX12_copies_128 : decode cX12_copies 128 = .ok (.iload_n 3, 1) := by decide +kernel
theorem dX12_copies_129 : decode cX12_copies 129 = .ok (.iadd, 1) := by decide +kernel
theorem dX12_copies_130 : decode cX12_copies 130 = .ok (.iaload, 1) := by decide +kernel
theorem dX12_copies_131 : decode cX12_copies 131 = .ok (.iastore, 1) := by decide +kernel
theorem dX12_copies_132 : decode cX12_copies 132 = .ok (.iinc 3 1, 3) := by decide +kernel
theorem dX12_copies_135 : decode cX12_copies 135 = .ok (.goto (-97), 3) := by decide +kernel
theorem dX12_copies_138 : decode cX12_copies 138 = .ok (.iconst 0, 1) := by decide +kernel
theorem dX12_copies_139 : decode cX12_copies 139 = .ok (.istore_n 3, 1) := by decide +kernel
theorem dX12_copies_140 : decode cX12_copies 140 = .ok (.iload_n 3, 1) := by decide +kernel
theorem dX12_copies_141 : decode cX12_copies 141 = .ok (.iconst 3, 1) := by decide +kernel
theorem dX12_copies_142 : decode cX12_copies 142 = .ok (.if_icmp .ge 29, 3) := by decide +kernel
theorem dX12_copies_145 : decode cX12_copies 145 = .ok (.aload_n 0, 1) := by decide +kernel
theorem dX12_copies_146 : decode cX12_copies 146 = .ok (.getfield 162, 3) := by decide +kernel
theorem dX12_copies_149 : decode cX12_copies 149 = .ok (.iconst 3, 1) := by decide +kernel
theorem dX12_copies_150 : decode cX12_copies 150 = .ok (.iload_n 1, 1) := by decide +kernel
theorem dX12_copies_151 : decode cX12_copies 151 = .ok (.imul, 1) := by decide +kernel
theorem dX12_copies_152 : decode cX12_copies 152 = .ok (.iload_n 3, 1) := by decide +kernel
theorem dX12_copies_153 : decode cX12_copies 153 = .ok (.iadd, 1) := by decide +kernel
theorem dX12_copies_154 : decode cX12_copies 154 = .ok (.aload_n 0, 1) := by decide +kernel
theorem dX12_copies_155 : decode cX12_copies 155 = .ok (.getfield 162, 3) := by decide +kernel
theorem dX12_copies_158 : decode cX12_copies 158 = .ok (.iconst 3, 1) := by decide +kernel
theorem dX12_copies_159 : decode cX12_copies 159 = .ok (.iload_n 2, 1) := by decide +kernel
theorem dX12_copies_160 : decode cX12_copies 160 = .ok (.imul, 1) := by decide +kernel
theorem dX12_copies_161 : decode cX12_copies 161 = .ok (.iload_n 3, 1) := by decide +kernel
theorem dX12_copies_162 : decode cX12_copies 162 = .ok (.iadd, 1) := by decide +kernel
theorem dX12_copies_163 : decode cX12_copies 163 = .ok (.iaload, 1) := by decide +kernel
theorem dX12_copies_164 : decode cX12_copies 164 = .ok (.iastore, 1) := by decide +kernel
theorem dX12_copies_165 : decode cX12_copies 165 = .ok (.iinc 3 1, 3) := by decide +kernel
theorem dX12_copies_168 : decode cX12_copies 168 = .ok (.goto (-28), 3) := by decide +kernel
theorem dX12_copies_171 : decode cX12_copies 171 = .ok (.aload_n 0, 1) := by decide +kernel
theorem dX12_copies_172 : decode cX12_copies 172 = .ok (.getfield 165, 3) := by decide +kernel
theorem dX12_copies_175 : decode cX12_copies 175 = .ok (.iload_n 1, 1) := by decide +kernel
theorem dX12_copies_176 : decode cX12_copies 176 = .ok (.aload_n 0, 1) := by decide +kernel
theorem dX12_copies_177 : decode cX12_copies 177 = .ok (.getfield 165, 3) := by decide +kernel
theorem dX12_copies_180 : decode cX12_copies 180 = .ok (.iload_n 2, 1) := by decide +kernel
theorem dX12_copies_181 : decode cX12_copies 181 = .ok (.iaload, 1) := by decide +kernel
theorem dX12_copies_182 : decode cX12_copies 182 = .ok (.iastore, 1) := by decide +kernel
theorem dX12_copies_183 : decode cX12_copies 183 = .ok (.iconst 0, 1) := by decide +kernel
theorem dX12_copies_184 : decode cX12_copies 184 = .ok (.istore_n 3, 1) := by decide +kernel
theorem dX12_copies_185 : decode cX12_copies 185 = .ok (.iload_n 3, 1) := by decide +kernel
theorem dX12_copies_186 : decode cX12_copies 186 = .ok (.iconst 4, 1) := by decide +kernel
theorem dX12_copies_187 : decode cX12_copies 187 = .ok (.aload_n 0, 1) := by decide +kernel
theorem dX12_copies_188 : decode cX12_copies 188 = .ok (.getfield 165, 3) := by decide +kernel
theorem dX12_copies_191 : decode cX12_copies 191 = .ok (.iload_n 2, 1) := by decide +kernel
theorem dX12_copies_192 : decode cX12_copies 192 = .ok (.iaload, 1) := by decide +kernel
theorem dX12_copies_193 : decode cX12_copies 193 = .ok (.imul, 1) := by decide +kernel
theorem dX12_copies_194 : decode cX12_copies 194 = .ok (.if_icmp .ge 33, 3) := by decide +kernel
theorem dX12_copies_197 : decode cX12_copies 197 = .ok (.aload_n 0, 1) := by decide +kernel
theorem dX12_copies_198 : decode cX12_copies 198 = .ok (.getfield 168, 3) := by decide +kernel
theorem dX12_copies_201 : decode cX12_copies 201 = .ok (.sipush 160, 3) := by decide +kernel
theorem dX12_copies_204 : decode cX12_copies 204 = .ok (.iload_n 1, 1) := by decide +kernel
theorem dX12_copies_205 : decode cX12_copies 205 = .ok (.imul, 1) := by decide +kernel
theorem dX12_copies_206 : decode cX12_copies 206 = .ok (.iload_n 3, 1) := by decide +kernel
theorem dX12_copies_207 : decode cX12_copies 207 = .ok (.iadd, 1) := by decide +kernel
theorem dX12_copies_208 : decode cX12_copies 208 = .ok (.aload_n 0, 1) := by decide +kernel
theorem dX12_copies_209 : decode cX12_copies 209 = .ok (.getfield 168, 3) := by decide +kernel
theorem dX12_copies_212 : decode cX12_copies 212 = .ok (.sipush 160, 3) := by decide +kernel
theorem dX12_copies_215 : decode cX12_copies 215 = .ok (.iload_n 2, 1) := by decide +kernel
theorem dX12_copies_216 : decode cX12_copies 216 = .ok (.imul, 1) := by decide +kernel
theorem dX12_copies_217 : decode cX12_copies 217 = .ok (.iload_n 3, 1) := by decide +kernel
theorem dX12_copies_218 : decode cX12_copies 218 = .ok (.iadd, 1) := by decide +kernel
theorem dX12_copies_219 : decode cX12_copies 219 = .ok (.iaload, 1) := by decide +kernel
theorem dX12_copies_220 : decode cX12_copies 220 = .ok (.iastore, 1) := by decide +kernel
theorem dX12_copies_221 : decode cX12_copies 221 = .ok (.iinc 3 1, 3) := by decide +kernel
theorem dX12_copies_224 : decode cX12_copies 224 = .ok (.goto (-39), 3) := by decide +kernel
theorem dX12_copies_227 : decode cX12_copies 227 = .ok (.return_, 1) := by decide +kernel
theorem dX12_begin_0 : decode cX12_begin 0 = .ok (.aload_n 0, 1) := by decide +kernel
theorem dX12_begin_1 : decode cX12_begin 1 = .ok (.getfield 141, 3) := by decide +kernel
theorem dX12_begin_4 : decode cX12_begin 4 = .ok (.iconst 0, 1) := by decide +kernel
theorem dX12_begin_5 : decode cX12_begin 5 = .ok (.iconst 0, 1) := by decide +kernel
theorem dX12_begin_6 : decode cX12_begin 6 = .ok (.iastore, 1) := by decide +kernel
theorem dX12_begin_7 : decode cX12_begin 7 = .ok (.aload_n 0, 1) := by decide +kernel
theorem dX12_begin_8 : decode cX12_begin 8 = .ok (.getfield 144, 3) := by decide +kernel
theorem dX12_begin_11 : decode cX12_begin 11 = .ok (.iconst 0, 1) := by decide +kernel
theorem dX12_begin_12 : decode cX12_begin 12 = .ok (.aload_n 0, 1) := by decide +kernel
theorem dX12_begin_13 : decode cX12_begin 13 = .ok (.getfield 69, 3) := by decide +kernel
theorem dX12_begin_16 : decode cX12_begin 16 = .ok (.aload_n 0, 1) := by decide +kernel
theorem dX12_begin_17 : decode cX12_begin 17 = .ok (.getfield 51, 3) := by decide +kernel
theorem dX12_begin_20 : decode cX12_begin 20 = .ok (.iaload, 1) := by decide +kernel
theorem dX12_begin_21 : decode cX12_begin 21 = .ok (.iastore, 1) := by decide +kernel
theorem dX12_begin_22 : decode cX12_begin 22 = .ok (.aload_n 0, 1) := by decide +kernel
theorem dX12_begin_23 : decode cX12_begin 23 = .ok (.getfield 159, 3) := by decide +kernel
theorem dX12_begin_26 : decode cX12_begin 26 = .ok (.iconst 0, 1) := by decide +kernel
theorem dX12_begin_27 : decode cX12_begin 27 = .ok (.iconst 0, 1) := by decide +kernel
theorem dX12_begin_28 : decode cX12_begin 28 = .ok (.iastore, 1) := by decide +kernel
theorem dX12_begin_29 : decode cX12_begin 29 = .ok (.iconst 0, 1) := by decide +kernel
theorem dX12_begin_30 : decode cX12_begin 30 = .ok (.istore_n 1, 1) := by decide +kernel
theorem dX12_begin_31 : decode cX12_begin 31 = .ok (.iload_n 1, 1) := by decide +kernel
theorem dX12_begin_32 : decode cX12_begin 32 = .ok (.bipush 8, 2) := by decide +kernel
theorem dX12_begin_34 : decode cX12_begin 34 = .ok (.if_icmp .ge 37, 3) := by decide +kernel
theorem dX12_begin_37 : decode cX12_begin 37 = .ok (.aload_n 0, 1) := by decide +kernel
theorem dX12_begin_38 : decode cX12_begin 38 = .ok (.getfield 147, 3) := by decide +kernel
theorem dX12_begin_41 : decode cX12_begin 41 = .ok (.iload_n 1, 1) := by decide +kernel
theorem dX12_begin_42 : decode cX12_begin 42 = .ok (.iconst (-1), 1) := by decide +kernel
theorem dX12_begin_43 : decode cX12_begin 43 = .ok (.iastore, 1) := by decide +kernel
theorem dX12_begin_44 : decode cX12_begin 44 = .ok (.aload_n 0, 1) := by decide +kernel
theorem dX12_begin_45 : decode cX12_begin 45 = .ok (.getfield 150, 3) := by decide +kernel
theorem dX12_begin_48 : decode cX12_begin 48 = .ok (.iload_n 1, 1) := by decide +kernel
theorem dX12_begin_49 : decode cX12_begin 49 = .ok (.iconst (-1), 1) := by decide +kernel
theorem dX12_begin_50 : decode cX12_begin 50 = .ok (.iastore, 1) := by decide +kernel
theorem dX12_begin_51 : decode cX12_begin 51 = .ok (.aload_n 0, 1) := by decide +kernel
theorem dX12_begin_52 : decode cX12_begin 52 = .ok (.getfield 153, 3) := by decide +kernel
theorem dX12_begin_55 : decode cX12_begin 55 = .ok (.iload_n 1, 1) := by decide +kernel
theorem dX12_begin_56 : decode cX12_begin 56 = .ok (.iconst (-1), 1) := by decide +kernel
theorem dX12_begin_57 : decode cX12_begin 57 = .ok (.iastore, 1) := by decide +kernel
theorem dX12_begin_58 : decode cX12_begin 58 = .ok (.aload_n 0, 1) := by decide +kernel
theorem dX12_begin_59 : decode cX12_begin 59 = .ok (.getfield 156, 3) := by decide +kernel
theorem dX12_begin_62 : decode cX12_begin 62 = .ok (.iload_n 1, 1) := by decide +kernel
theorem dX12_begin_63 : decode cX12_begin 63 = .ok (.iconst 0, 1) := by decide +kernel
theorem dX12_begin_64 : decode cX12_begin 64 = .ok (.iastore, 1) := by decide +kernel
theorem dX12_begin_65 : decode cX12_begin 65 = .ok (.iinc 1 1, 3) := by decide +kernel
theorem dX12_begin_68 : decode cX12_begin 68 = .ok (.goto (-37), 3) := by decide +kernel
theorem dX12_begin_71 : decode cX12_begin 71 = .ok (.iconst 0, 1) := by decide +kernel
theorem dX12_begin_72 : decode cX12_begin 72 = .ok (.istore_n 1, 1) := by decide +kernel
theorem dX12_begin_73 : decode cX12_begin 73 = .ok (.iload_n 1, 1) := by decide +kernel
theorem dX12_begin_74 : decode cX12_begin 74 = .ok (.iconst 3, 1) := by decide +kernel
theorem dX12_begin_75 : decode cX12_begin 75 = .ok (.if_icmp .ge 16, 3) := by decide +kernel
theorem dX12_begin_78 : decode cX12_begin 78 = .ok (.aload_n 0, 1) := by decide +kernel
theorem dX12_begin_79 : decode cX12_begin 79 = .ok (.getfield 162, 3) := by decide +kernel
theorem dX12_begin_82 : decode cX12_begin 82 = .ok (.iload_n 1, 1) := by decide +kernel
theorem dX12_begin_83 : decode cX12_begin 83 = .ok (.iconst (-1), 1) := by decide +kernel
theorem dX12_begin_84 : decode cX12_begin 84 = .ok (.iastore, 1) := by decide +kernel
theorem dX12_begin_85 : decode cX12_begin 85 = .ok (.iinc 1 1, 3) := by decide +kernel
theorem dX12_begin_88 : decode cX12_begin 88 = .ok (.goto (-15), 3) := by decide +kernel
theorem dX12_begin_91 : decode cX12_begin 91 = .ok (.aload_n 0, 1) := by decide +kernel
theorem dX12_begin_92 : decode cX12_begin 92 = .ok (.getfield 165, 3) := by decide +kernel
theorem dX12_begin_95 : decode cX12_begin 95 = .ok (.iconst 0, 1) := by decide +kernel
theorem dX12_begin_96 : decode cX12_begin 96 = .ok (.iconst 0, 1) := by decide +kernel
theorem dX12_begin_97 : decode cX12_begin 97 = .ok (.iastore, 1) := by decide +kernel
theorem dX12_begin_98 : decode cX12_begin 98 = .ok (.aload_n 0, 1) := by decide +kernel
theorem dX12_begin_99 : decode cX12_begin 99 = .ok (.iconst 0, 1) := by decide +kernel
theorem dX12_begin_100 : decode cX12_begin 100 = .ok (.putfield 174, 3) := by decide +kernel
theorem dX12_begin_103 : decode cX12_begin 103 = .ok (.aload_n 0, 1) := by decide +kernel
theorem dX12_begin_104 : decode cX12_begin 104 = .ok (.iconst 0, 1) := by decide +kernel
theorem dX12_begin_105 : decode cX12_begin 105 = .ok (.putfield 195, 3) := by decide +kernel
theorem dX12_begin_108 : decode cX12_begin 108 = .ok (.return_, 1) := by decide +kernel
theorem dX12_slot_0 : decode cX12_slot 0 = .ok (.iconst 2, 1) := by decide +kernel
theorem dX12_slot_1 : decode cX12_slot 1 = .ok (.aload_n 0, 1) := by decide +kernel
theorem dX12_slot_2 : decode cX12_slot 2 = .ok (.getfield 171, 3) := by decide +kernel
theorem dX12_slot_5 : decode cX12_slot 5 = .ok (.iload_n 1, 1) := by decide +kernel
theorem dX12_slot_6 : decode cX12_slot 6 = .ok (.iadd, 1) := by decide +kernel
theorem dX12_slot_7 : decode cX12_slot 7 = .ok (.bipush 20, 2) := by decide +kernel
theorem dX12_slot_9 : decode cX12_slot 9 = .ok (.irem, 1) := by decide +kernel
theorem dX12_slot_10 : decode cX12_slot 10 = .ok (.iadd, 1) := by decide +kernel
theorem dX12_slot_11 : decode cX12_slot 11 = .ok (.ireturn, 1) := by decide +kernel
theorem dX12_keeps_0 : decode cX12_keeps 0 = .ok (.aload_n 0, 1) := by decide +kernel
theorem dX12_keeps_1 : decode cX12_keeps 1 = .ok (.getfield 174, 3) := by decide +kernel
theorem dX12_keeps_4 : decode cX12_keeps 4 = .ok (.bipush 20, 2) := by decide +kernel
theorem dX12_keeps_6 : decode cX12_keeps 6 = .ok (.if_icmp .ne 26, 3) := by decide +kernel
theorem dX12_keeps_9 : decode cX12_keeps 9 = .ok (.aload_n 0, 1) := by decide +kernel
theorem dX12_keeps_10 : decode cX12_keeps 10 = .ok (.aload_n 0, 1) := by decide +kernel
theorem dX12_keeps_11 : decode cX12_keeps 11 = .ok (.getfield 171, 3) := by decide +kernel
theorem dX12_keeps_14 : decode cX12_keeps 14 = .ok (.iconst 1, 1) := by decide +kernel
theorem dX12_keeps_15 : decode cX12_keeps 15 = .ok (.iadd, 1) := by decide +kernel
theorem dX12_keeps_16 : decode cX12_keeps 16 = .ok (.bipush 20, 2) := by decide +kernel
theorem dX12_keeps_18 : decode cX12_keeps 18 = .ok (.irem, 1) := by decide +kernel
theorem dX12_keeps_19 : decode cX12_keeps 19 = .ok (.putfield 171, 3) := by decide +kernel
theorem dX12_keeps_22 : decode cX12_keeps 22 = .ok (.aload_n 0, 1) := by decide +kernel
theorem dX12_keeps_23 : decode cX12_keeps 23 = .ok (.dup, 1) := by decide +kernel
theorem dX12_keeps_24 : decode cX12_keeps 24 = .ok (.getfield 174, 3) := by decide +kernel
theorem dX12_keeps_27 : decode cX12_keeps 27 = .ok (.iconst 1, 1) := by decide +kernel
theorem dX12_keeps_28 : decode cX12_keeps 28 = .ok (.isub, 1) := by decide +kernel
theorem dX12_keeps_29 : decode cX12_keeps 29 = .ok (.putfield 174, 3) := by decide +kernel
theorem dX12_keeps_32 : decode cX12_keeps 32 = .ok (.aload_n 0, 1) := by decide +kernel
theorem dX12_keeps_33 : decode cX12_keeps 33 = .ok (.aload_n 0, 1) := by decide +kernel
theorem dX12_keeps_34 : decode cX12_keeps 34 = .ok (.aload_n 0, 1) := by decide +kernel
theorem dX12_keeps_35 : decode cX12_keeps 35 = .ok (.getfield 174, 3) := by decide +kernel
theorem dX12_keeps_38 : decode cX12_keeps 38 = .ok (.invokevirtual 383, 3) := by decide +kernel
theorem dX12_keeps_41 : decode cX12_keeps 41 = .ok (.iconst 0, 1) := by decide +kernel
theorem dX12_keeps_42 : decode cX12_keeps 42 = .ok (.invokevirtual 386, 3) := by decide +kernel
theorem dX12_keeps_45 : decode cX12_keeps 45 = .ok (.aload_n 0, 1) := by decide +kernel
theorem dX12_keeps_46 : decode cX12_keeps 46 = .ok (.dup, 1) := by decide +kernel
theorem dX12_keeps_47 : decode cX12_keeps 47 = .ok (.getfield 174, 3) := by decide +kernel
theorem dX12_keeps_50 : decode cX12_keeps 50 = .ok (.iconst 1, 1) := by decide +kernel
theorem dX12_keeps_51 : decode cX12_keeps 51 = .ok (.iadd, 1) := by decide +kernel
theorem dX12_keeps_52 : decode cX12_keeps 52 = .ok (.putfield 174, 3) := by decide +kernel
theorem dX12_keeps_55 : decode cX12_keeps 55 = .ok (.return_, 1) := by decide +kernel
theorem dX12_undo_0 : decode cX12_undo 0 = .ok (.aload_n 0, 1) := by decide +kernel
theorem dX12_undo_1 : decode cX12_undo 1 = .ok (.getfield 174, 3) := by decide +kernel
theorem dX12_undo_4 : decode cX12_undo 4 = .ok (.ifCond .ne 17, 3) := by decide +kernel
theorem dX12_undo_7 : decode cX12_undo 7 = .ok (.aload_n 0, 1) := by decide +kernel
theorem dX12_undo_8 : decode cX12_undo 8 = .ok (.iconst 4, 1) := by decide +kernel
theorem dX12_undo_9 : decode cX12_undo 9 = .ok (.invokevirtual 216, 3) := by decide +kernel
theorem dX12_undo_12 : decode cX12_undo 12 = .ok (.ifCond .lt 7, 3) := by decide +kernel
theorem dX12_undo_15 : decode cX12_undo 15 = .ok (.iconst 1, 1) := by decide +kernel
theorem dX12_undo_16 : decode cX12_undo 16 = .ok (.goto 4, 3) := by decide +kernel
theorem dX12_undo_19 : decode cX12_undo 19 = .ok (.iconst 0, 1) := by decide +kernel
theorem dX12_undo_20 : decode cX12_undo 20 = .ok (.ireturn, 1) := by decide +kernel
theorem dX12_undo_21 : decode cX12_undo 21 = .ok (.aload_n 0, 1) := by decide +kernel
theorem dX12_undo_22 : decode cX12_undo 22 = .ok (.dup, 1) := by decide +kernel
theorem dX12_undo_23 : decode cX12_undo 23 = .ok (.getfield 174, 3) := by decide +kernel
theorem dX12_undo_26 : decode cX12_undo 26 = .ok (.iconst 1, 1) := by decide +kernel
theorem dX12_undo_27 : decode cX12_undo 27 = .ok (.isub, 1) := by decide +kernel
theorem dX12_undo_28 : decode cX12_undo 28 = .ok (.putfield 174, 3) := by decide +kernel
theorem dX12_undo_31 : decode cX12_undo 31 = .ok (.aload_n 0, 1) := by decide +kernel
theorem dX12_undo_32 : decode cX12_undo 32 = .ok (.iconst 0, 1) := by decide +kernel
theorem dX12_undo_33 : decode cX12_undo 33 = .ok (.aload_n 0, 1) := by decide +kernel
theorem dX12_undo_34 : decode cX12_undo 34 = .ok (.aload_n 0, 1) := by decide +kernel
theorem dX12_undo_35 : decode cX12_undo 35 = .ok (.getfield 174, 3) := by decide +kernel
theorem dX12_undo_38 : decode cX12_undo 38 = .ok (.invokevirtual 383, 3) := by decide +kernel
theorem dX12_undo_41 : decode cX12_undo 41 = .ok (.invokevirtual 386, 3) := by decide +kernel
theorem dX12_undo_44 : decode cX12_undo 44 = .ok (.iconst 1, 1) := by decide +kernel
theorem dX12_undo_45 : decode cX12_undo 45 = .ok (.ireturn, 1) := by decide +kernel
theorem dX12_within_0 : decode cX12_within 0 = .ok (.lload_n 0, 1) := by decide +kernel
theorem dX12_within_1 : decode cX12_within 1 = .ok (.ldc2_w 389, 3) := by decide +kernel
theorem dX12_within_4 : decode cX12_within 4 = .ok (.lcmp, 1) := by decide +kernel
theorem dX12_within_5 : decode cX12_within 5 = .ok (.ifCond .le 9, 3) := by decide +kernel
theorem dX12_within_8 : decode cX12_within 8 = .ok (.ldc2_w 389, 3) := by decide +kernel
theorem dX12_within_11 : decode cX12_within 11 = .ok (.goto 18, 3) := by decide +kernel
theorem dX12_within_14 : decode cX12_within 14 = .ok (.lload_n 0, 1) := by decide +kernel
theorem dX12_within_15 : decode cX12_within 15 = .ok (.ldc2_w 391, 3) := by decide +kernel
theorem dX12_within_18 : decode cX12_within 18 = .ok (.lcmp, 1) := by decide +kernel
theorem dX12_within_19 : decode cX12_within 19 = .ok (.ifCond .ge 9, 3) := by decide +kernel
theorem dX12_within_22 : decode cX12_within 22 = .ok (.ldc2_w 391, 3) := by decide +kernel
theorem dX12_within_25 : decode cX12_within 25 = .ok (.goto 4, 3) := by decide +kernel
theorem dX12_within_28 : decode cX12_within 28 = .ok (.lload_n 0, 1) := by decide +kernel
theorem dX12_within_29 : decode cX12_within 29 = .ok (.lreturn, 1) := by decide +kernel
theorem dX12_floor_0 : decode cX12_floor 0 = .ok (.lload_n 2, 1) := by decide +kernel
theorem dX12_floor_1 : decode cX12_floor 1 = .ok (.lconst 0, 1) := by decide +kernel
theorem dX12_floor_2 : decode cX12_floor 2 = .ok (.lcmp, 1) := by decide +kernel
theorem dX12_floor_3 : decode cX12_floor 3 = .ok (.ifCond .ne 5, 3) := by decide +kernel
theorem dX12_floor_6 : decode cX12_floor 6 = .ok (.lconst 0, 1) := by decide +kernel
theorem dX12_floor_7 : decode cX12_floor 7 = .ok (.lreturn, 1) := by decide +kernel
theorem dX12_floor_8 : decode cX12_floor 8 = .ok (.lload_n 0, 1) := by decide +kernel
theorem dX12_floor_9 : decode cX12_floor 9 = .ok (.lload_n 2, 1) := by decide +kernel
theorem dX12_floor_10 : decode cX12_floor 10 = .ok (.ldiv, 1) := by decide +kernel
theorem dX12_floor_11 : decode cX12_floor 11 = .ok (.lstore 4, 2) := by decide +kernel
theorem dX12_floor_13 : decode cX12_floor 13 = .ok (.lload_n 0, 1) := by decide +kernel
theorem dX12_floor_14 : decode cX12_floor 14 = .ok (.lload_n 2, 1) := by decide +kernel
theorem dX12_floor_15 : decode cX12_floor 15 = .ok (.lrem, 1) := by decide +kernel
theorem dX12_floor_16 : decode cX12_floor 16 = .ok (.lconst 0, 1) := by decide +kernel
theorem dX12_floor_17 : decode cX12_floor 17 = .ok (.lcmp, 1) := by decide +kernel
theorem dX12_floor_18 : decode cX12_floor 18 = .ok (.ifCond .eq 35, 3) := by decide +kernel
theorem dX12_floor_21 : decode cX12_floor 21 = .ok (.lload_n 0, 1) := by decide +kernel
theorem dX12_floor_22 : decode cX12_floor 22 = .ok (.lconst 0, 1) := by decide +kernel
theorem dX12_floor_23 : decode cX12_floor 23 = .ok (.lcmp, 1) := by decide +kernel
theorem dX12_floor_24 : decode cX12_floor 24 = .ok (.ifCond .ge 7, 3) := by decide +kernel
theorem dX12_floor_27 : decode cX12_floor 27 = .ok (.iconst 1, 1) := by decide +kernel
theorem dX12_floor_28 : decode cX12_floor 28 = .ok (.goto 4, 3) := by decide +kernel
theorem dX12_floor_31 : decode cX12_floor 31 = .ok (.iconst 0, 1) := by decide +kernel
theorem dX12_floor_32 : decode cX12_floor 32 = .ok (.lload_n 2, 1) := by decide +kernel
theorem dX12_floor_33 : decode cX12_floor 33 = .ok (.lconst 0, 1) := by decide +kernel
theorem dX12_floor_34 : decode cX12_floor 34 = .ok (.lcmp, 1) := by decide +kernel
theorem dX12_floor_35 : decode cX12_floor 35 = .ok (.ifCond .ge 7, 3) := by decide +kernel
theorem dX12_floor_38 : decode cX12_floor 38 = .ok (.iconst 1, 1) := by decide +kernel
theorem dX12_floor_39 : decode cX12_floor 39 = .ok (.goto 4, 3) := by decide +kernel
theorem dX12_floor_42 : decode cX12_floor 42 = .ok (.iconst 0, 1) := by decide +kernel
theorem dX12_floor_43 : decode cX12_floor 43 = .ok (.if_icmp .eq 10, 3) := by decide +kernel
theorem dX12_floor_46 : decode cX12_floor 46 = .ok (.lload 4, 2) := by decide +kernel
theorem dX12_floor_48 : decode cX12_floor 48 = .ok (.lconst 1, 1) := by decide +kernel
theorem dX12_floor_49 : decode cX12_floor 49 = .ok (.lsub, 1) := by decide +kernel
theorem dX12_floor_50 : decode cX12_floor 50 = .ok (.goto 5, 3) := by decide +kernel
theorem dX12_floor_53 : decode cX12_floor 53 = .ok (.lload 4, 2) := by decide +kernel
theorem dX12_floor_55 : decode cX12_floor 55 = .ok (.lreturn, 1) := by decide +kernel
theorem dX12_two_0 : decode cX12_two 0 = .ok (.iload_n 0, 1) := by decide +kernel
theorem dX12_two_1 : decode cX12_two 1 = .ok (.tableswitch 176 31 41 #[59, 66, 73, 80, 89, 112, 124, 136, 148, 160, 172], 59) := by decide +kernel
theorem dX12_two_60 : decode cX12_two 60 = .ok (.lload_n 1, 1) := by decide +kernel
theorem dX12_two_61 : decode cX12_two 61 = .ok (.lload_n 3, 1) := by decide +kernel
theorem dX12_two_62 : decode cX12_two 62 = .ok (.ladd, 1) := by decide +kernel
theorem dX12_two_63 : decode cX12_two 63 = .ok (.invokestatic 393, 3) := by decide +kernel
theorem dX12_two_66 : decode cX12_two 66 = .ok (.lreturn, 1) := by decide +kernel
theorem dX12_two_67 : decode cX12_two 67 = .ok (.lload_n 1, 1) := by decide +kernel
theorem dX12_two_68 : decode cX12_two 68 = .ok (.lload_n 3, 1) := by decide +kernel
theorem dX12_two_69 : decode cX12_two 69 = .ok (.lsub, 1) := by decide +kernel
theorem dX12_two_70 : decode cX12_two 70 = .ok (.invokestatic 393, 3) := by decide +kernel
theorem dX12_two_73 : decode cX12_two 73 = .ok (.lreturn, 1) := by decide +kernel
theorem dX12_two_74 : decode cX12_two 74 = .ok (.lload_n 1, 1) := by decide +kernel
theorem dX12_two_75 : decode cX12_two 75 = .ok (.lload_n 3, 1) := by decide +kernel
theorem dX12_two_76 : decode cX12_two 76 = .ok (.lmul, 1) := by decide +kernel
theorem dX12_two_77 : decode cX12_two 77 = .ok (.invokestatic 393, 3) := by decide +kernel
theorem dX12_two_80 : decode cX12_two 80 = .ok (.lreturn, 1) := by decide +kernel
theorem dX12_two_81 : decode cX12_two 81 = .ok (.lload_n 1, 1) := by decide +kernel
theorem dX12_two_82 : decode cX12_two 82 = .ok (.lload_n 3, 1) := by decide +kernel
theorem dX12_two_83 : decode cX12_two 83 = .ok (.invokestatic 397, 3) := by decide +kernel
theorem dX12_two_86 : decode cX12_two 86 = .ok (.invokestatic 393, 3) := by decide +kernel
theorem dX12_two_89 : decode cX12_two 89 = .ok (.lreturn, 1) := by decide +kernel
theorem dX12_two_90 : decode cX12_two 90 = .ok (.lload_n 3, 1) := by decide +kernel
theorem dX12_two_91 : decode cX12_two 91 = .ok (.lconst 0, 1) := by decide +kernel
theorem dX12_two_92 : decode cX12_two 92 = .ok (.lcmp, 1) := by decide +kernel
theorem dX12_two_93 : decode cX12_two 93 = .ok (.ifCond .ne 7, 3) := by decide +kernel
theorem dX12_two_96 : decode cX12_two 96 = .ok (.lconst 0, 1) := by decide +kernel
theorem dX12_two_97 : decode cX12_two 97 = .ok (.goto 15, 3) := by decide +kernel
theorem dX12_two_100 : decode cX12_two 100 = .ok (.lload_n 1, 1) := by decide +kernel
theorem dX12_two_101 : decode cX12_two 101 = .ok (.lload_n 3, 1) := by decide +kernel
theorem dX12_two_102 : decode cX12_two 102 = .ok (.lload_n 1, 1) := by decide +kernel
theorem dX12_two_103 : decode cX12_two 103 = .ok (.lload_n 3, 1) := by decide +kernel
theorem dX12_two_104 : decode cX12_two 104 = .ok (.invokestatic 397, 3) := by decide +kernel
theorem dX12_two_107 : decode cX12_two 107 = .ok (.lmul, 1) := by decide +kernel
theorem dX12_two_108 : decode cX12_two 108 = .ok (.lsub, 1) := by decide +kernel
theorem dX12_two_109 : decode cX12_two 109 = .ok (.invokestatic 393, 3) := by decide +kernel
theorem dX12_two_112 : decode cX12_two 112 = .ok (.lreturn, 1) := by decide +kernel
theorem dX12_two_113 : decode cX12_two 113 = .ok (.lload_n 1, 1) := by decide +kernel
theorem dX12_two_114 : decode cX12_two 114 = .ok (.lload_n 3, 1) := by decide +kernel
theorem dX12_two_115 : decode cX12_two 115 = .ok (.lcmp, 1) := by decide +kernel
theorem dX12_two_116 : decode cX12_two 116 = .ok (.ifCond .ge 7, 3) := by decide +kernel
theorem dX12_two_119 : decode cX12_two 119 = .ok (.lload_n 1, 1) := by decide +kernel
theorem dX12_two_120 : decode cX12_two 120 = .ok (.goto 4, 3) := by decide +kernel
theorem dX12_two_123 : decode cX12_two 123 = .ok (.lload_n 3, 1) := by decide +kernel
theorem dX12_two_124 : decode cX12_two 124 = .ok (.lreturn, 1) := by decide +kernel
theorem dX12_two_125 : decode cX12_two 125 = .ok (.lload_n 1, 1) := by decide +kernel
theorem dX12_two_126 : decode cX12_two 126 = .ok (.lload_n 3, 1) := by decide +kernel
theorem dX12_two_127 : decode cX12_two 127 = .ok (.lcmp, 1) := by decide +kernel
theorem dX12_two_128 : decode cX12_two 128 = .ok (.ifCond .le 7, 3) := by decide +kernel
theorem dX12_two_131 : decode cX12_two 131 = .ok (.lload_n 1, 1) := by decide +kernel
theorem dX12_two_132 : decode cX12_two 132 = .ok (.goto 4, 3) := by decide +kernel
theorem dX12_two_135 : decode cX12_two 135 = .ok (.lload_n 3, 1) := by decide +kernel
theorem dX12_two_136 : decode cX12_two 136 = .ok (.lreturn, 1) := by decide +kernel
theorem dX12_two_137 : decode cX12_two 137 = .ok (.lload_n 1, 1) := by decide +kernel
theorem dX12_two_138 : decode cX12_two 138 = .ok (.lload_n 3, 1) := by decide +kernel
theorem dX12_two_139 : decode cX12_two 139 = .ok (.lcmp, 1) := by decide +kernel
theorem dX12_two_140 : decode cX12_two 140 = .ok (.ifCond .ge 7, 3) := by decide +kernel
theorem dX12_two_143 : decode cX12_two 143 = .ok (.lconst 1, 1) := by decide +kernel
theorem dX12_two_144 : decode cX12_two 144 = .ok (.goto 4, 3) := by decide +kernel
theorem dX12_two_147 : decode cX12_two 147 = .ok (.lconst 0, 1) := by decide +kernel
theorem dX12_two_148 : decode cX12_two 148 = .ok (.lreturn, 1) := by decide +kernel
theorem dX12_two_149 : decode cX12_two 149 = .ok (.lload_n 1, 1) := by decide +kernel
theorem dX12_two_150 : decode cX12_two 150 = .ok (.lload_n 3, 1) := by decide +kernel
theorem dX12_two_151 : decode cX12_two 151 = .ok (.lcmp, 1) := by decide +kernel
theorem dX12_two_152 : decode cX12_two 152 = .ok (.ifCond .le 7, 3) := by decide +kernel
theorem dX12_two_155 : decode cX12_two 155 = .ok (.lconst 1, 1) := by decide +kernel
theorem dX12_two_156 : decode cX12_two 156 = .ok (.goto 4, 3) := by decide +kernel
theorem dX12_two_159 : decode cX12_two 159 = .ok (.lconst 0, 1) := by decide +kernel
theorem dX12_two_160 : decode cX12_two 160 = .ok (.lreturn, 1) := by decide +kernel
theorem dX12_two_161 : decode cX12_two 161 = .ok (.lload_n 1, 1) := by decide +kernel
theorem dX12_two_162 : decode cX12_two 162 = .ok (.lload_n 3, 1) := by decide +kernel
theorem dX12_two_163 : decode cX12_two 163 = .ok (.lcmp, 1) := by decide +kernel
theorem dX12_two_164 : decode cX12_two 164 = .ok (.ifCond .ne 7, 3) := by decide +kernel
theorem dX12_two_167 : decode cX12_two 167 = .ok (.lconst 1, 1) := by decide +kernel
theorem dX12_two_168 : decode cX12_two 168 = .ok (.goto 4, 3) := by decide +kernel
theorem dX12_two_171 : decode cX12_two 171 = .ok (.lconst 0, 1) := by decide +kernel
theorem dX12_two_172 : decode cX12_two 172 = .ok (.lreturn, 1) := by decide +kernel
theorem dX12_two_173 : decode cX12_two 173 = .ok (.lload_n 1, 1) := by decide +kernel
theorem dX12_two_174 : decode cX12_two 174 = .ok (.lload_n 3, 1) := by decide +kernel
theorem dX12_two_175 : decode cX12_two 175 = .ok (.land, 1) := by decide +kernel
theorem dX12_two_176 : decode cX12_two 176 = .ok (.lreturn, 1) := by decide +kernel
theorem dX12_two_177 : decode cX12_two 177 = .ok (.lload_n 1, 1) := by decide +kernel
theorem dX12_two_178 : decode cX12_two 178 = .ok (.lload_n 3, 1) := by decide +kernel
theorem dX12_two_179 : decode cX12_two 179 = .ok (.lor, 1) := by decide +kernel
theorem dX12_two_180 : decode cX12_two 180 = .ok (.lreturn, 1) := by decide +kernel
theorem dX12_reckons_0 : decode cX12_reckons 0 = .ok (.iconst 0, 1) := by decide +kernel
theorem dX12_reckons_1 : decode cX12_reckons 1 = .ok (.istore_n 2, 1) := by decide +kernel
theorem dX12_reckons_2 : decode cX12_reckons 2 = .ok (.sipush 1600, 3) := by decide +kernel
theorem dX12_reckons_5 : decode cX12_reckons 5 = .ok (.aload_n 0, 1) := by decide +kernel
theorem dX12_reckons_6 : decode cX12_reckons 6 = .ok (.getfield 51, 3) := by decide +kernel
theorem dX12_reckons_9 : decode cX12_reckons 9 = .ok (.imul, 1) := by decide +kernel
theorem dX12_reckons_10 : decode cX12_reckons 10 = .ok (.aload_n 0, 1) := by decide +kernel
theorem dX12_reckons_11 : decode cX12_reckons 11 = .ok (.getfield 78, 3) := by decide +kernel
theorem dX12_reckons_14 : decode cX12_reckons 14 = .ok (.iconst 4, 1) := by decide +kernel
theorem dX12_reckons_15 : decode cX12_reckons 15 = .ok (.aload_n 0, 1) := by decide +kernel
theorem dX12_reckons_16 : decode cX12_reckons 16 = .ok (.getfield 51, 3) := by decide +kernel
theorem dX12_reckons_19 : decode cX12_reckons 19 = .ok (.imul, 1) := by decide +kernel
theorem dX12_reckons_20 : decode cX12_reckons 20 = .ok (.iload_n 1, 1) := by decide +kernel
theorem dX12_reckons_21 : decode cX12_reckons 21 = .ok (.iadd, 1) := by decide +kernel
theorem dX12_reckons_22 : decode cX12_reckons 22 = .ok (.iaload, 1) := by decide +kernel
theorem dX12_reckons_23 : decode cX12_reckons 23 = .ok (.iadd, 1) := by decide +kernel
theorem dX12_reckons_24 : decode cX12_reckons 24 = .ok (.istore_n 3, 1) := by decide +kernel
theorem dX12_reckons_25 : decode cX12_reckons 25 = .ok (.iload_n 3, 1) := by decide +kernel
theorem dX12_reckons_26 : decode cX12_reckons 26 = .ok (.sipush 1600, 3) := by decide +kernel
theorem dX12_reckons_29 : decode cX12_reckons 29 = .ok (.aload_n 0, 1) := by decide +kernel
theorem dX12_reckons_30 : decode cX12_reckons 30 = .ok (.getfield 51, 3) := by decide +kernel
theorem dX12_reckons_33 : decode cX12_reckons 33 = .ok (.imul, 1) := by decide +kernel
theorem dX12_reckons_34 : decode cX12_reckons 34 = .ok (.aload_n 0, 1) := by decide +kernel
theorem dX12_reckons_35 : decode cX12_reckons 35 = .ok (.getfield 81, 3) := by decide +kernel
theorem dX12_reckons_38 : decode cX12_reckons 38 = .ok (.iconst 4, 1) := by decide +kernel
theorem dX12_reckons_39 : decode cX12_reckons 39 = .ok (.aload_n 0, 1) := by decide +kernel
theorem dX12_reckons_40 : decode cX12_reckons 40 = .ok (.getfield 51, 3) := by decide +kernel
theorem dX12_reckons_43 : decode cX12_reckons 43 = .ok (.imul, 1) := by decide +kernel
theorem dX12_reckons_44 : decode cX12_reckons 44 = .ok (.iload_n 1, 1) := by decide +kernel
theorem dX12_reckons_45 : decode cX12_reckons 45 = .ok (.iadd, 1) := by decide +kernel
theorem dX12_reckons_46 : decode cX12_reckons 46 = .ok (.iaload, 1) := by decide +kernel
theorem dX12_reckons_47 : decode cX12_reckons 47 = .ok (.iadd, 1) := by decide +kernel
theorem dX12_reckons_48 : decode cX12_reckons 48 = .ok (.if_icmp .ge 179, 3) := by decide +kernel
theorem dX12_reckons_51 : decode cX12_reckons 51 = .ok (.aload_n 0, 1) := by decide +kernel
theorem dX12_reckons_52 : decode cX12_reckons 52 = .ok (.getfield 84, 3) := by decide +kernel
theorem dX12_reckons_55 : decode cX12_reckons 55 = .ok (.iload_n 3, 1) := by decide +kernel
theorem dX12_reckons_56 : decode cX12_reckons 56 = .ok (.iaload, 1) := by decide +kernel
theorem dX12_reckons_57 : decode cX12_reckons 57 = .ok (.istore 4, 2) := by decide +kernel
theorem dX12_reckons_59 : decode cX12_reckons 59 = .ok (.iload 4, 2) := by decide +kernel
theorem dX12_reckons_61 : decode cX12_reckons 61 = .ok (.bipush 30, 2) := by decide +kernel
theorem dX12_reckons_63 : decode cX12_reckons 63 = .ok (.if_icmp .gt 49, 3) := by decide +kernel
theorem dX12_reckons_66 : decode cX12_reckons 66 = .ok (.aload_n 0, 1) := by decide +kernel
theorem dX12_reckons_67 : decode cX12_reckons 67 = .ok (.getfield 180, 3) := by decide +kernel
theorem dX12_reckons_70 : decode cX12_reckons 70 = .ok (.iload_n 2, 1) := by decide +kernel
theorem dX12_reckons_71 : decode cX12_reckons 71 = .ok (.iload 4, 2) := by decide +kernel
theorem dX12_reckons_73 : decode cX12_reckons 73 = .ok (.ifCond .ne 13, 3) := by decide +kernel
theorem dX12_reckons_76 : decode cX12_reckons 76 = .ok (.aload_n 0, 1) := by decide +kernel
theorem dX12_reckons_77 : decode cX12_reckons 77 = .ok (.getfield 87, 3) := by decide +kernel
theorem dX12_reckons_80 : decode cX12_reckons 80 = .ok (.iload_n 3, 1) := by decide +kernel
theorem dX12_reckons_81 : decode cX12_reckons 81 = .ok (.iaload, 1) := by decide +kernel
theorem dX12_reckons_82 : decode cX12_reckons 82 = .ok (.i2l, 1) := by decide +kernel
theorem dX12_reckons_83 : decode cX12_reckons 83 = .ok (.goto 22, 3) := by decide +kernel
theorem dX12_reckons_86 : decode cX12_reckons 86 = .ok (.iload 4, 2) := by decide +kernel
theorem dX12_reckons_88 : decode cX12_reckons 88 = .ok (.bipush 30, 2) := by decide +kernel
theorem dX12_reckons_90 : decode cX12_reckons 90 = .ok (.if_icmp .ne 7, 3) := by decide +kernel
theorem dX12_reckons_93 : decode cX12_reckons 93 = .ok (.lconst 1, 1) := by decide +kernel
theorem dX12_reckons_94 : decode cX12_reckons 94 = .ok (.goto 11, 3) := by decide +kernel
theorem dX12_reckons_97 : decode cX12_reckons 97 = .ok (.aload_n 0, 1) := by decide +kernel
theorem dX12_reckons_98 : decode cX12_reckons 98 = .ok (.getfield 183, 3) := by decide +kernel
theorem dX12_reckons_101 : decode cX12_reckons 101 = .ok (.iload 4, 2) := by decide +kernel
theorem dX12_reckons_103 : decode cX12_reckons 103 = .ok (.iaload, 1) := by decide +kernel
theorem dX12_reckons_104 : decode cX12_reckons 104 = .ok (.i2l, 1) := by decide +kernel
theorem dX12_reckons_105 : decode cX12_reckons 105 = .ok (.lastore, 1) := by decide +kernel
theorem dX12_reckons_106 : decode cX12_reckons 106 = .ok (.iinc 2 1, 3) := by decide +kernel
theorem dX12_reckons_109 : decode cX12_reckons 109 = .ok (.goto 112, 3) := by decide +kernel
theorem dX12_reckons_112 : decode cX12_reckons 112 = .ok (.iload 4, 2) := by decide +kernel
theorem dX12_reckons_114 : decode cX12_reckons 114 = .ok (.bipush 43, 2) := by decide +kernel
theorem dX12_reckons_116 : decode cX12_reckons 116 = .ok (.if_icmp .ne 24, 3) := by decide +kernel
theorem dX12_reckons_119 : decode cX12_reckons 119 = .ok (.aload_n 0, 1) := by decide +kernel
theorem dX12_reckons_120 : decode cX12_reckons 120 = .ok (.getfield 180, 3) := by decide +kernel
theorem dX12_reckons_123 : decode cX12_reckons 123 = .ok (.iload_n 2, 1) := by decide +kernel
theorem dX12_reckons_124 : decode cX12_reckons 124 = .ok (.iconst 1, 1) := by decide +kernel
theorem dX12_reckons_125 : decode cX12_reckons 125 = .ok (.isub, 1) := by decide +kernel
theorem dX12_reckons_126 : decode cX12_reckons 126 = .ok (.lconst 1, 1) := by decide +kernel
theorem dX12_reckons_127 : decode cX12_reckons 127 = .ok (.aload_n 0, 1) := by decide +kernel
theorem dX12_reckons_128 : decode cX12_reckons 128 = .ok (.getfield 180, 3) := by decide +kernel
theorem dX12_reckons_131 : decode cX12_reckons 131 = .ok (.iload_n 2, 1) := by decide +kernel
theorem dX12_reckons_132 : decode cX12_reckons 132 = .ok (.iconst 1, 1) := by decide +kernel
theorem dX12_reckons_133 : decode cX12_reckons 133 = .ok (.isub, 1) := by decide +kernel
theorem dX12_reckons_134 : decode cX12_reckons 134 = .ok (.laload, 1) := by decide +kernel
theorem dX12_reckons_135 : decode cX12_reckons 135 = .ok (.lsub, 1) := by decide +kernel
theorem dX12_reckons_136 : decode cX12_reckons 136 = .ok (.lastore, 1) := by decide +kernel
theorem dX12_reckons_137 : decode cX12_reckons 137 = .ok (.goto 84, 3) := by decide +kernel
theorem dX12_reckons_140 : decode cX12_reckons 140 = .ok (.iload 4, 2) := by decide +kernel
theorem dX12_reckons_142 : decode cX12_reckons 142 = .ok (.bipush 44, 2) := by decide +kernel
theorem dX12_reckons_144 : decode cX12_reckons 144 = .ok (.if_icmp .ne 47, 3) := by decide +kernel
theorem dX12_reckons_147 : decode cX12_reckons 147 = .ok (.iinc 2 (-2), 3) := by decide +kernel
theorem dX12_reckons_150 : decode cX12_reckons 150 = .ok (.aload_n 0, 1) := by decide +kernel
theorem dX12_reckons_151 : decode cX12_reckons 151 = .ok (.getfield 180, 3) := by decide +kernel
theorem dX12_reckons_154 : decode cX12_reckons 154 = .ok (.iload_n 2, 1) := by decide +kernel
theorem dX12_reckons_155 : decode cX12_reckons 155 = .ok (.iconst 1, 1) := by decide +kernel
theorem dX12_reckons_156 : decode cX12_reckons 156 = .ok (.isub, 1) := by decide +kernel
theorem dX12_reckons_157 : decode cX12_reckons 157 = .ok (.aload_n 0, 1) := by decide +kernel
theorem dX12_reckons_158 : decode cX12_reckons 158 = .ok (.getfield 180, 3) := by decide +kernel
theorem dX12_reckons_161 : decode cX12_reckons 161 = .ok (.iload_n 2, 1) := by decide +kernel
theorem dX12_reckons_162 : decode cX12_reckons 162 = .ok (.iconst 1, 1) := by decide +kernel
theorem dX12_reckons_163 : decode cX12_reckons 163 = .ok (.isub, 1) := by decide +kernel
theorem dX12_reckons_164 : decode cX12_reckons 164 = .ok (.laload, 1) := by decide +kernel
theorem dX12_reckons_165 : decode cX12_reckons 165 = .ok (.lconst 1, 1) := by decide +kernel
theorem dX12_reckons_166 : decode cX12_reckons 166 = .ok (.lcmp, 1) := by decide +kernel
theorem dX12_reckons_167 : decode cX12_reckons 167 = .ok (.ifCond .ne 12, 3) := by decide +kernel
theorem dX12_reckons_170 : decode cX12_reckons 170 = .ok (.aload_n 0, 1) := by decide +kernel
theorem dX12_reckons_171 : decode cX12_reckons 171 = .ok (.getfield 180, 3) := by decide +kernel
theorem dX12_reckons_174 : decode cX12_reckons 174 = .ok (.iload_n 2, 1) := by decide +kernel
theorem dX12_reckons_175 : decode cX12_reckons 175 = .ok (.laload, 1) := by decide +kernel
theorem dX12_reckons_176 : decode cX12_reckons 176 = .ok (.goto 11, 3) := by decide +kernel
theorem dX12_reckons_179 : decode cX12_reckons 179 = .ok (.aload_n 0, 1) := by decide +kernel
theorem dX12_reckons_180 : decode cX12_reckons 180 = .ok (.getfield 180, 3) := by decide +kernel
theorem dX12_reckons_183 : decode cX12_reckons 183 = .ok (.iload_n 2, 1) := by decide +kernel
theorem dX12_reckons_184 : decode cX12_reckons 184 = .ok (.iconst 1, 1) := by decide +kernel
theorem dX12_reckons_185 : decode cX12_reckons 185 = .ok (.iadd, 1) := by decide +kernel
theorem dX12_reckons_186 : decode cX12_reckons 186 = .ok (.laload, 1) := by decide +kernel
theorem dX12_reckons_187 : decode cX12_reckons 187 = .ok (.lastore, 1) := by decide +kernel
theorem dX12_reckons_188 : decode cX12_reckons 188 = .ok (.goto 33, 3) := by decide +kernel
theorem dX12_reckons_191 : decode cX12_reckons 191 = .ok (.iinc 2 (-1), 3) := by decide +kernel
theorem dX12_reckons_194 : decode cX12_reckons 194 = .ok (.aload_n 0, 1) := by decide +kernel
theorem dX12_reckons_195 : decode cX12_reckons 195 = .ok (.getfield 180, 3) := by decide +kernel
theorem dX12_reckons_198 : decode cX12_reckons 198 = .ok (.iload_n 2, 1) := by decide +kernel
theorem dX12_reckons_199 : decode cX12_reckons 199 = .ok (.iconst 1, 1) := by decide +kernel
theorem dX12_reckons_200 : decode cX12_reckons 200 = .ok (.isub, 1) := by decide +kernel
theorem dX12_reckons_201 : decode cX12_reckons 201 = .ok (.iload 4, 2) := by decide +kernel
theorem dX12_reckons_203 : decode cX12_reckons 203 = .ok (.aload_n 0, 1) := by decide +kernel
theorem dX12_reckons_204 : decode cX12_reckons 204 = .ok (.getfield 180, 3) := by decide +kernel
theorem dX12_reckons_207 : decode cX12_reckons 207 = .ok (.iload_n 2, 1) := by decide +kernel
theorem dX12_reckons_208 : decode cX12_reckons 208 = .ok (.iconst 1, 1) := by decide +kernel
theorem dX12_reckons_209 : decode cX12_reckons 209 = .ok (.isub, 1) := by decide +kernel
theorem dX12_reckons_210 : decode cX12_reckons 210 = .ok (.laload, 1) := by decide +kernel
theorem dX12_reckons_211 : decode cX12_reckons 211 = .ok (.aload_n 0, 1) := by decide +kernel
theorem dX12_reckons_212 : decode cX12_reckons 212 = .ok (.getfield 180, 3) := by decide +kernel
theorem dX12_reckons_215 : decode cX12_reckons 215 = .ok (.iload_n 2, 1) := by decide +kernel
theorem dX12_reckons_216 : decode cX12_reckons 216 = .ok (.laload, 1) := by decide +kernel
theorem dX12_reckons_217 : decode cX12_reckons 217 = .ok (.invokestatic 401, 3) := by decide +kernel
theorem dX12_reckons_220 : decode cX12_reckons 220 = .ok (.lastore, 1) := by decide +kernel
theorem dX12_reckons_221 : decode cX12_reckons 221 = .ok (.iinc 3 1, 3) := by decide +kernel
theorem dX12_reckons_224 : decode cX12_reckons 224 = .ok (.goto (-199), 3) := by decide +kernel
theorem dX12_reckons_227 : decode cX12_reckons 227 = .ok (.aload_n 0, 1) := by decide +kernel
theorem dX12_reckons_228 : decode cX12_reckons 228 = .ok (.getfield 180, 3) := by decide +kernel
theorem dX12_reckons_231 : decode cX12_reckons 231 = .ok (.iconst 0, 1) := by decide +kernel
theorem dX12_reckons_232 : decode cX12_reckons 232 = .ok (.laload, 1) := by decide +kernel
theorem dX12_reckons_233 : decode cX12_reckons 233 = .ok (.lreturn, 1) := by decide +kernel
theorem dX12_isTold_0 : decode cX12_isTold 0 = .ok (.aload_n 0, 1) := by decide +kernel
theorem dX12_isTold_1 : decode cX12_isTold 1 = .ok (.getfield 78, 3) := by decide +kernel
theorem dX12_isTold_4 : decode cX12_isTold 4 = .ok (.iconst 4, 1) := by decide +kernel
theorem dX12_isTold_5 : decode cX12_isTold 5 = .ok (.aload_n 0, 1) := by decide +kernel
theorem dX12_isTold_6 : decode cX12_isTold 6 = .ok (.getfield 51, 3) := by decide +kernel
theorem dX12_isTold_9 : decode cX12_isTold 9 = .ok (.imul, 1) := by decide +kernel
theorem dX12_isTold_10 : decode cX12_isTold 10 = .ok (.iload_n 1, 1) := by decide +kernel
theorem dX12_isTold_11 : decode cX12_isTold 11 = .ok (.iadd, 1) := by decide +kernel
theorem dX12_isTold_12 : decode cX12_isTold 12 = .ok (.iaload, 1) := by decide +kernel
theorem dX12_isTold_13 : decode cX12_isTold 13 = .ok (.iconst (-1), 1) := by decide +kernel
theorem dX12_isTold_14 : decode cX12_isTold 14 = .ok (.if_icmp .eq 7, 3) := by decide +kernel
theorem dX12_isTold_17 : decode cX12_isTold 17 = .ok (.iconst 1, 1) := by decide +kernel
theorem dX12_isTold_18 : decode cX12_isTold 18 = .ok (.goto 4, 3) := by decide +kernel
theorem dX12_isTold_21 : decode cX12_isTold 21 = .ok (.iconst 0, 1) := by decide +kernel
theorem dX12_isTold_22 : decode cX12_isTold 22 = .ok (.ireturn, 1) := by decide +kernel
theorem dX12_lays_0 : decode cX12_lays 0 = .ok (.aload_n 0, 1) := by decide +kernel
theorem dX12_lays_1 : decode cX12_lays 1 = .ok (.getfield 183, 3) := by decide +kernel
theorem dX12_lays_4 : decode cX12_lays 4 = .ok (.iconst 1, 1) := by decide +kernel
theorem dX12_lays_5 : decode cX12_lays 5 = .ok (.iload_n 3, 1) := by decide +kernel
theorem dX12_lays_6 : decode cX12_lays 6 = .ok (.iastore, 1) := by decide +kernel
theorem dX12_lays_7 : decode cX12_lays 7 = .ok (.aload_n 0, 1) := by decide +kernel
theorem dX12_lays_8 : decode cX12_lays 8 = .ok (.getfield 183, 3) := by decide +kernel
theorem dX12_lays_11 : decode cX12_lays 11 = .ok (.iconst 2, 1) := by decide +kernel
theorem dX12_lays_12 : decode cX12_lays 12 = .ok (.aload_n 0, 1) := by decide +kernel
theorem dX12_lays_13 : decode cX12_lays 13 = .ok (.getfield 141, 3) := by decide +kernel
theorem dX12_lays_16 : decode cX12_lays 16 = .ok (.iload_n 1, 1) := by decide +kernel
theorem dX12_lays_17 : decode cX12_lays 17 = .ok (.iaload, 1) := by decide +kernel
theorem dX12_lays_18 : decode cX12_lays 18 = .ok (.iastore, 1) := by decide +kernel
theorem dX12_lays_19 : decode cX12_lays 19 = .ok (.aload_n 0, 1) := by decide +kernel
theorem dX12_lays_20 : decode cX12_lays 20 = .ok (.getfield 183, 3) := by decide +kernel
theorem dX12_lays_23 : decode cX12_lays 23 = .ok (.iconst 3, 1) := by decide +kernel
theorem dX12_lays_24 : decode cX12_lays 24 = .ok (.aload_n 0, 1) := by decide +kernel
theorem dX12_lays_25 : decode cX12_lays 25 = .ok (.getfield 57, 3) := by decide +kernel
theorem dX12_lays_28 : decode cX12_lays 28 = .ok (.bipush 8, 2) := by decide +kernel
theorem dX12_lays_30 : decode cX12_lays 30 = .ok (.aload_n 0, 1) := by decide +kernel
theorem dX12_lays_31 : decode cX12_lays 31 = .ok (.getfield 51, 3) := by decide +kernel
theorem dX12_lays_34 : decode cX12_lays 34 = .ok (.imul, 1) := by decide +kernel
theorem dX12_lays_35 : decode cX12_lays 35 = .ok (.iload_n 2, 1) := by decide +kernel
theorem dX12_lays_36 : decode cX12_lays 36 = .ok (.iadd, 1) := by decide +kernel
theorem dX12_lays_37 : decode cX12_lays 37 = .ok (.iaload, 1) := by decide +kernel
theorem dX12_lays_38 : decode cX12_lays 38 = .ok (.iastore, 1) := by decide +kernel
theorem dX12_lays_39 : decode cX12_lays 39 = .ok (.aload_n 0, 1) := by decide +kernel
theorem dX12_lays_40 : decode cX12_lays 40 = .ok (.getfield 183, 3) := by decide +kernel
theorem dX12_lays_43 : decode cX12_lays 43 = .ok (.iconst 4, 1) := by decide +kernel
theorem dX12_lays_44 : decode cX12_lays 44 = .ok (.aload_n 0, 1) := by decide +kernel
theorem dX12_lays_45 : decode cX12_lays 45 = .ok (.getfield 60, 3) := by decide +kernel
theorem dX12_lays_48 : decode cX12_lays 48 = .ok (.bipush 8, 2) := by decide +kernel
theorem dX12_lays_50 : decode cX12_lays 50 = .ok (.aload_n 0, 1) := by decide +kernel
theorem dX12_lays_51 : decode cX12_lays 51 = .ok (.getfield 51, 3) := by decide +kernel
theorem dX12_lays_54 : decode cX12_lays 54 = .ok (.imul, 1) := by decide +kernel
theorem dX12_lays_55 : decode cX12_lays 55 = .ok (.iload_n 2, 1) := by decide +kernel
theorem dX12_lays_56 : decode cX12_lays 56 = .ok (.iadd, 1) := by decide +kernel
theorem dX12_lays_57 : decode cX12_lays 57 = .ok (.iaload, 1) := by decide +kernel
theorem dX12_lays_58 : decode cX12_lays 58 = .ok (.iastore, 1) := by decide +kernel
theorem dX12_lays_59 : decode cX12_lays 59 = .ok (.aload_n 0, 1) := by decide +kernel
theorem dX12_lays_60 : decode cX12_lays 60 = .ok (.getfield 183, 3) := by decide +kernel
theorem dX12_lays_63 : decode cX12_lays 63 = .ok (.iconst 5, 1) := by decide +kernel
theorem dX12_lays_64 : decode cX12_lays 64 = .ok (.iload 4, 2) := by decide +kernel
theorem dX12_lays_66 : decode cX12_lays 66 = .ok (.iastore, 1) := by decide +kernel
theorem dX12_lays_67 : decode cX12_lays 67 = .ok (.return_, 1) := by decide +kernel
theorem dX12_ring_0 : decode cX12_ring 0 = .ok (.aload_n 0, 1) := by decide +kernel
theorem dX12_ring_1 : decode cX12_ring 1 = .ok (.iload_n 1, 1) := by decide +kernel
theorem dX12_ring_2 : decode cX12_ring 2 = .ok (.iload_n 2, 1) := by decide +kernel
theorem dX12_ring_3 : decode cX12_ring 3 = .ok (.iload_n 3, 1) := by decide +kernel
theorem dX12_ring_4 : decode cX12_ring 4 = .ok (.iload 4, 2) := by decide +kernel
theorem dX12_ring_6 : decode cX12_ring 6 = .ok (.invokevirtual 405, 3) := by decide +kernel
theorem dX12_ring_9 : decode cX12_ring 9 = .ok (.aload_n 0, 1) := by decide +kernel
theorem dX12_ring_10 : decode cX12_ring 10 = .ok (.iconst 0, 1) := by decide +kernel
theorem dX12_ring_11 : decode cX12_ring 11 = .ok (.invokevirtual 409, 3) := by decide +kernel
theorem dX12_ring_14 : decode cX12_ring 14 = .ok (.ifCond .eq 11, 3) := by decide +kernel
theorem dX12_ring_17 : decode cX12_ring 17 = .ok (.aload_n 0, 1) := by decide +kernel
theorem dX12_ring_18 : decode cX12_ring 18 = .ok (.iconst 0, 1) := by decide +kernel
theorem dX12_ring_19 : decode cX12_ring 19 = .ok (.invokevirtual 412, 3) := by decide +kernel
theorem dX12_ring_22 : decode cX12_ring 22 = .ok (.goto 7, 3) := by decide +kernel
theorem dX12_ring_25 : decode cX12_ring 25 = .ok (.iconst 4, 1) := by decide +kernel
theorem dX12_ring_26 : decode cX12_ring 26 = .ok (.iload_n 3, 1) := by decide +kernel
theorem dX12_ring_27 : decode cX12_ring 27 = .ok (.imul, 1) := by decide +kernel
theorem dX12_ring_28 : decode cX12_ring 28 = .ok (.i2l, 1) := by decide +kernel
theorem dX12_ring_29 : decode cX12_ring 29 = .ok (.lstore 5, 2) := by decide +kernel
theorem dX12_ring_31 : decode cX12_ring 31 = .ok (.lload 5, 2) := by decide +kernel
theorem dX12_ring_33 : decode cX12_ring 33 = .ok (.lconst 0, 1) := by decide +kernel
theorem dX12_ring_34 : decode cX12_ring 34 = .ok (.lcmp, 1) := by decide +kernel
theorem dX12_ring_35 : decode cX12_ring 35 = .ok (.ifCond .ge 7, 3) := by decide +kernel
theorem dX12_ring_38 : decode cX12_ring 38 = .ok (.iconst 0, 1) := by decide +kernel
theorem dX12_ring_39 : decode cX12_ring 39 = .ok (.goto 20, 3) := by decide +kernel
theorem dX12_ring_42 : decode cX12_ring 42 = .ok (.lload 5, 2) := by decide +kernel
theorem dX12_ring_44 : decode cX12_ring 44 = .ok (.ldc2_w 416, 3) := by decide +kernel
theorem dX12_ring_47 : decode cX12_ring 47 = .ok (.lcmp, 1) := by decide +kernel
theorem dX12_ring_48 : decode cX12_ring 48 = .ok (.ifCond .le 8, 3) := by decide +kernel
theorem dX12_ring_51 : decode cX12_ring 51 = .ok (.bipush 99, 2) := by decide +kernel
theorem dX12_ring_53 : decode cX12_ring 53 = .ok (.goto 6, 3) := by decide +kernel
theorem dX12_ring_56 : decode cX12_ring 56 = .ok (.lload 5, 2) := by decide +kernel
theorem dX12_ring_58 : decode cX12_ring 58 = .ok (.l2i, 1) := by decide +kernel
theorem dX12_ring_59 : decode cX12_ring 59 = .ok (.ireturn, 1) := by decide +kernel
theorem dX12_isCracking_0 : decode cX12_isCracking 0 = .ok (.aload_n 0, 1) := by decide +kernel
theorem dX12_isCracking_1 : decode cX12_isCracking 1 = .ok (.iconst 1, 1) := by decide +kernel
theorem dX12_isCracking_2 : decode cX12_isCracking 2 = .ok (.invokevirtual 409, 3) := by decide +kernel
theorem dX12_isCracking_5 : decode cX12_isCracking 5 = .ok (.ifCond .ne 5, 3) := by decide +kernel
theorem dX12_isCracking_8 : decode cX12_isCracking 8 = .ok (.iconst 0, 1) := by decide +kernel
theorem dX12_isCracking_9 : decode cX12_isCracking 9 = .ok (.ireturn, 1) := by decide +kernel
theorem dX12_isCracking_10 : decode cX12_isCracking 10 = .ok (.aload_n 0, 1) := by decide +kernel
theorem dX12_isCracking_11 : decode cX12_isCracking 11 = .ok (.iload_n 1, 1) := by decide +kernel
theorem dX12_isCracking_12 : decode cX12_isCracking 12 = .ok (.iload_n 2, 1) := by decide +kernel
theorem dX12_isCracking_13 : decode cX12_isCracking 13 = .ok (.iload_n 3, 1) := by decide +kernel
theorem dX12_isCracking_14 : decode cX12_isCracking 14 = .ok (.iload 4, 2) := by decide +kernel
theorem dX12_isCracking_16 : decode cX12_isCracking 16 = .ok (.invokevirtual 418, 3) := by decide +kernel
theorem dX12_isCracking_19 : decode cX12_isCracking 19 = .ok (.istore 5, 2) := by decide +kernel
theorem dX12_isCracking_21 : decode cX12_isCracking 21 = .ok (.aload_n 0, 1) := by decide +kernel
theorem dX12_isCracking_22 : decode cX12_isCracking 22 = .ok (.iload_n 1, 1) := by decide +kernel
theorem dX12_isCracking_23 : decode cX12_isCracking 23 = .ok (.iload_n 2, 1) := by decide +kernel
theorem dX12_isCracking_24 : decode cX12_isCracking 24 = .ok (.iload_n 3, 1) := by decide +kernel
theorem dX12_isCracking_25 : decode cX12_isCracking 25 = .ok (.iload 4, 2) := by decide +kernel
theorem dX12_isCracking_27 : decode cX12_isCracking 27 = .ok (.invokevirtual 405, 3) := by decide +kernel
theorem dX12_isCracking_30 : decode cX12_isCracking 30 = .ok (.aload_n 0, 1) := by decide +kernel
theorem dX12_isCracking_31 : decode cX12_isCracking 31 = .ok (.getfield 183, 3) := by decide +kernel
theorem dX12_isCracking_34 : decode cX12_isCracking 34 = .ok (.bipush 6, 2) := by decide +kernel
theorem dX12_isCracking_36 : decode cX12_isCracking 36 = .ok (.iload 5, 2) := by decide +kernel
theorem dX12_isCracking_38 : decode cX12_isCracking 38 = .ok (.iastore, 1) := by decide +kernel
theorem dX12_isCracking_39 : decode cX12_isCracking 39 = .ok (.aload_n 0, 1) := by decide +kernel
theorem dX12_isCracking_40 : decode cX12_isCracking 40 = .ok (.iconst 1, 1) := by decide +kernel
theorem dX12_isCracking_41 : decode cX12_isCracking 41 = .ok (.invokevirtual 412, 3) := by decide +kernel
theorem dX12_isCracking_44 : decode cX12_isCracking 44 = .ok (.lconst 1, 1) := by decide +kernel
theorem dX12_isCracking_45 : decode cX12_isCracking 45 = .ok (.lcmp, 1) := by decide +kernel
theorem dX12_isCracking_46 : decode cX12_isCracking 46 = .ok (.ifCond .ne 7, 3) := by decide +kernel
theorem dX12_isCracking_49 : decode cX12_isCracking 49 = .ok (.iconst 1, 1) := by decide +kernel
theorem dX12_isCracking_50 : decode cX12_isCracking 50 = .ok (.goto 4, 3) := by decide +kernel
theorem dX12_isCracking_53 : decode cX12_isCracking 53 = .ok (.iconst 0, 1) := by decide +kernel
theorem dX12_isCracking_54 : decode cX12_isCracking 54 = .ok (.ireturn, 1) := by decide +kernel
theorem dX12_isSticking_0 : decode cX12_isSticking 0 = .ok (.aload_n 0, 1) := by decide +kernel
theorem dX12_isSticking_1 : decode cX12_isSticking 1 = .ok (.iconst 2, 1) := by decide +kernel
theorem dX12_isSticking_2 : decode cX12_isSticking 2 = .ok (.invokevirtual 409, 3) := by decide +kernel
theorem dX12_isSticking_5 : decode cX12_isSticking 5 = .ok (.ifCond .ne 5, 3) := by decide +kernel
theorem dX12_isSticking_8 : decode cX12_isSticking 8 = .ok (.iconst 0, 1) := by decide +kernel
theorem dX12_isSticking_9 : decode cX12_isSticking 9 = .ok (.ireturn, 1) := by decide +kernel
theorem dX12_isSticking_10 : decode cX12_isSticking 10 = .ok (.aload_n 0, 1) := by decide +kernel
theorem dX12_isSticking_11 : decode cX12_isSticking 11 = .ok (.iload_n 1, 1) := by decide +kernel
theorem dX12_isSticking_12 : decode cX12_isSticking 12 = .ok (.iload_n 2, 1) := by decide +kernel
theorem dX12_isSticking_13 : decode cX12_isSticking 13 = .ok (.iload 4, 2) := by decide +kernel
theorem dX12_isSticking_15 : decode cX12_isSticking 15 = .ok (.iload 5, 2) := by decide +kernel
theorem dX12_isSticking_17 : decode cX12_isSticking 17 = .ok (.invokevirtual 418, 3) := by decide +kernel
theorem dX12_isSticking_20 : decode cX12_isSticking 20 = .ok (.aload_n 0, 1) := by decide +kernel
theorem dX12_isSticking_21 : decode cX12_isSticking 21 = .ok (.iload_n 1, 1) := by decide +kernel
theorem dX12_isSticking_22 : decode cX12_isSticking 22 = .ok (.iload_n 3, 1) := by decide +kernel
theorem dX12_isSticking_23 : decode cX12_isSticking 23 = .ok (.iload 4, 2) := by decide +kernel
theorem dX12_isSticking_25 : decode cX12_isSticking 25 = .ok (.iload 5, 2) := by decide +kernel
theorem dX12_isSticking_27 : decode cX12_isSticking 27 = .ok (.iconst 1, 1) := by decide +kernel
theorem dX12_isSticking_28 : decode cX12_isSticking 28 = .ok (.iadd, 1) := by decide +kernel
theorem dX12_isSticking_29 : decode cX12_isSticking 29 = .ok (.invokevirtual 418, 3) := by decide +kernel
theorem dX12_isSticking_32 : decode cX12_isSticking 32 = .ok (.isub, 1) := by decide +kernel
theorem dX12_isSticking_33 : decode cX12_isSticking 33 = .ok (.istore 6, 2) := by decide +kernel
theorem dX12_isSticking_35 : decode cX12_isSticking 35 = .ok (.aload_n 0, 1) := by decide +kernel
theorem dX12_isSticking_36 : decode cX12_isSticking 36 = .ok (.getfield 183, 3) := by decide +kernel
theorem dX12_isSticking_39 : decode cX12_isSticking 39 = .ok (.iconst 1, 1) := by decide +kernel
theorem dX12_isSticking_40 : decode cX12_isSticking 40 = .ok (.iload 4, 2) := by decide +kernel
theorem dX12_isSticking_42 : decode cX12_isSticking 42 = .ok (.iastore, 1) := by decide +kernel
theorem dX12_isSticking_43 : decode cX12_isSticking 43 = .ok (.aload_n 0, 1) := by decide +kernel
theorem dX12_isSticking_44 : decode cX12_isSticking 44 = .ok (.getfield 183, 3) := by decide +kernel
theorem dX12_isSticking_47 : decode cX12_isSticking 47 = .ok (.iconst 2, 1) := by decide +kernel
theorem dX12_isSticking_48 : decode cX12_isSticking 48 = .ok (.aload_n 0, 1) := by decide +kernel
theorem dX12_isSticking_49 : decode cX12_isSticking 49 = .ok (.getfield 141, 3) := by decide +kernel
theorem dX12_isSticking_52 : decode cX12_isSticking 52 = .ok (.iload_n 1, 1) := by decide +kernel
theorem dX12_isSticking_53 : decode cX12_isSticking 53 = .ok (.iaload, 1) := by decide +kernel
theorem dX12_isSticking_54 : decode cX12_isSticking 54 = .ok (.iastore, 1) := by decide +kernel
theorem dX12_isSticking_55 : decode cX12_isSticking 55 = .ok (.aload_n 0, 1) := by decide +kernel
theorem dX12_isSticking_56 : decode cX12_isSticking 56 = .ok (.getfield 183, 3) := by decide +kernel
theorem dX12_isSticking_59 : decode cX12_isSticking 59 = .ok (.bipush 7, 2) := by decide +kernel
theorem dX12_isSticking_61 : decode cX12_isSticking 61 = .ok (.iload 6, 2) := by decide +kernel
theorem dX12_isSticking_63 : decode cX12_isSticking 63 = .ok (.ifCond .ge 9, 3) := by decide +kernel
theorem dX12_isSticking_66 : decode cX12_isSticking 66 = .ok (.iload 6, 2) := by decide +kernel
theorem dX12_isSticking_68 : decode cX12_isSticking 68 = .ok (.ineg, 1) := by decide +kernel
theorem dX12_isSticking_69 : decode cX12_isSticking 69 = .ok (.goto 5, 3) := by decide +kernel
theorem dX12_isSticking_72 : decode cX12_isSticking 72 = .ok (.iload 6, 2) := by decide +kernel
theorem dX12_isSticking_74 : decode cX12_isSticking 74 = .ok (.iastore, 1) := by decide +kernel
theorem dX12_isSticking_75 : decode cX12_isSticking 75 = .ok (.aload_n 0, 1) := by decide +kernel
theorem dX12_isSticking_76 : decode cX12_isSticking 76 = .ok (.getfield 183, 3) := by decide +kernel
theorem dX12_isSticking_79 : decode cX12_isSticking 79 = .ok (.bipush 8, 2) := by decide +kernel
theorem dX12_isSticking_81 : decode cX12_isSticking 81 = .ok (.aload_n 0, 1) := by decide +kernel
theorem dX12_isSticking_82 : decode cX12_isSticking 82 = .ok (.getfield 60, 3) := by decide +kernel
theorem dX12_isSticking_85 : decode cX12_isSticking 85 = .ok (.bipush 8, 2) := by decide +kernel
theorem dX12_isSticking_87 : decode cX12_isSticking 87 = .ok (.aload_n 0, 1) := by decide +kernel
theorem dX12_isSticking_88 : decode cX12_isSticking 88 = .ok (.getfield 51, 3) := by decide +kernel
theorem dX12_isSticking_91 : decode cX12_isSticking 91 = .ok (.imul, 1) := by decide +kernel
theorem dX12_isSticking_92 : decode cX12_isSticking 92 = .ok (.iload_n 2, 1) := by decide +kernel
theorem dX12_isSticking_93 : decode cX12_isSticking 93 = .ok (.iadd, 1) := by decide +kernel
theorem dX12_isSticking_94 : decode cX12_isSticking 94 = .ok (.iaload, 1) := by decide +kernel
theorem dX12_isSticking_95 : decode cX12_isSticking 95 = .ok (.aload_n 0, 1) := by decide +kernel
theorem dX12_isSticking_96 : decode cX12_isSticking 96 = .ok (.getfield 60, 3) := by decide +kernel
theorem dX12_isSticking_99 : decode cX12_isSticking 99 = .ok (.bipush 8, 2) := by decide +kernel
theorem dX12_isSticking_101 : decode cX12_isSticking 101 = .ok (.aload_n 0, 1) := by decide +kernel
theorem dX12_isSticking_102 : decode cX12_isSticking 102 = .ok (.getfield 51, 3) := by decide +kernel
theorem dX12_isSticking_105 : decode cX12_isSticking 105 = .ok (.imul, 1) := by decide +kernel
theorem dX12_isSticking_106 : decode cX12_isSticking 106 = .ok (.iload_n 3, 1) := by decide +kernel
theorem dX12_isSticking_107 : decode cX12_isSticking 107 = .ok (.iadd, 1) := by decide +kernel
theorem dX12_isSticking_108 : decode cX12_isSticking 108 = .ok (.iaload, 1) := by decide +kernel
theorem dX12_isSticking_109 : decode cX12_isSticking 109 = .ok (.iadd, 1) := by decide +kernel
theorem dX12_isSticking_110 : decode cX12_isSticking 110 = .ok (.iastore, 1) := by decide +kernel
theorem dX12_isSticking_111 : decode cX12_isSticking 111 = .ok (.aload_n 0, 1) := by decide +kernel
theorem dX12_isSticking_112 : decode cX12_isSticking 112 = .ok (.iconst 2, 1) := by decide +kernel
theorem dX12_isSticking_113 : decode cX12_isSticking 113 = .ok (.invokevirtual 412, 3) := by decide +kernel
theorem dX12_isSticking_116 : decode cX12_isSticking 116 = .ok (.lconst 1, 1) := by decide +kernel
theorem dX12_isSticking_117 : decode cX12_isSticking 117 = .ok (.lcmp, 1) := by decide +kernel
theorem dX12_isSticking_118 : decode cX12_isSticking 118 = .ok (.ifCond .ne 7, 3) := by decide +kernel
theorem dX12_isSticking_121 : decode cX12_isSticking 121 = .ok (.iconst 1, 1) := by decide +kernel
theorem dX12_isSticking_122 : decode cX12_isSticking 122 = .ok (.goto 4, 3) := by decide +kernel
theorem dX12_isSticking_125 : decode cX12_isSticking 125 = .ok (.iconst 0, 1) := by decide +kernel
theorem dX12_isSticking_126 : decode cX12_isSticking 126 = .ok (.ireturn, 1) := by decide +kernel
theorem dX12_inPlace_0 : decode cX12_inPlace 0 = .ok (.iconst 0, 1) := by decide +kernel
theorem dX12_inPlace_1 : decode cX12_inPlace 1 = .ok (.istore 4, 2) := by decide +kernel
theorem dX12_inPlace_3 : decode cX12_inPlace 3 = .ok (.iload 4, 2) := by decide +kernel
theorem dX12_inPlace_5 : decode cX12_inPlace 5 = .ok (.aload_n 0, 1) := by decide +kernel
theorem dX12_inPlace_6 : decode cX12_inPlace 6 = .ok (.getfield 54, 3) := by decide +kernel
theorem dX12_inPlace_9 : decode cX12_inPlace 9 = .ok (.aload_n 0, 1) := by decide +kernel
theorem dX12_inPlace_10 : decode cX12_inPlace 10 = .ok (.getfield 51, 3) := by decide +kernel
theorem dX12_inPlace_13 : decode cX12_inPlace 13 = .ok (.iaload, 1) := by decide +kernel
theorem dX12_inPlace_14 : decode cX12_inPlace 14 = .ok (.if_icmp .ge 44, 3) := by decide +kernel
theorem dX12_inPlace_17 : decode cX12_inPlace 17 = .ok (.aload_n 0, 1) := by decide +kernel
theorem dX12_inPlace_18 : decode cX12_inPlace 18 = .ok (.getfield 147, 3) := by decide +kernel
theorem dX12_inPlace_21 : decode cX12_inPlace 21 = .ok (.bipush 8, 2) := by decide +kernel
theorem dX12_inPlace_23 : decode cX12_inPlace 23 = .ok (.iload_n 1, 1) := by decide +kernel
theorem dX12_inPlace_24 : decode cX12_inPlace 24 = .ok (.imul, 1) := by decide +kernel
theorem dX12_inPlace_25 : decode cX12_inPlace 25 = .ok (.iload 4, 2) := by decide +kernel
theorem dX12_inPlace_27 : decode cX12_inPlace 27 = .ok (.iadd, 1) := by decide +kernel
theorem dX12_inPlace_28 : decode cX12_inPlace 28 = .ok (.iaload, 1) := by decide +kernel
theorem dX12_inPlace_29 : decode cX12_inPlace 29 = .ok (.iload_n 2, 1) := by decide +kernel
theorem dX12_inPlace_30 : decode cX12_inPlace 30 = .ok (.if_icmp .ne 22, 3) := by decide +kernel
theorem dX12_inPlace_33 : decode cX12_inPlace 33 = .ok (.aload_n 0, 1) := by decide +kernel
theorem dX12_inPlace_34 : decode cX12_inPlace 34 = .ok (.getfield 150, 3) := by decide +kernel
theorem dX12_inPlace_37 : decode cX12_inPlace 37 = .ok (.bipush 8, 2) := by decide +kernel
theorem dX12_inPlace_39 : decode cX12_inPlace 39 = .ok (.iload_n 1, 1) := by decide +kernel
theorem dX12_inPlace_40 : decode cX12_inPlace 40 = .ok (.imul, 1) := by decide +kernel
theorem dX12_inPlace_41 : decode cX12_inPlace 41 = .ok (.iload 4, 2) := by decide +kernel
theorem dX12_inPlace_43 : decode cX12_inPlace 43 = .ok (.iadd, 1) := by decide +kernel
theorem dX12_inPlace_44 : decode cX12_inPlace 44 = .ok (.iaload, 1) := by decide +kernel
theorem dX12_inPlace_45 : decode cX12_inPlace 45 = .ok (.iload_n 3, 1) := by decide +kernel
theorem dX12_inPlace_46 : decode cX12_inPlace 46 = .ok (.if_icmp .ne 6, 3) := by decide +kernel
theorem dX12_inPlace_49 : decode cX12_inPlace 49 = .ok (.iload 4, 2) := by decide +kernel
theorem dX12_inPlace_51 : decode cX12_inPlace 51 = .ok (.ireturn, 1) := by decide +kernel
theorem dX12_inPlace_52 : decode cX12_inPlace 52 = .ok (.iinc 4 1, 3) := by decide +kernel
theorem dX12_inPlace_55 : decode cX12_inPlace 55 = .ok (.goto (-52), 3) := by decide +kernel
theorem dX12_inPlace_58 : decode cX12_inPlace 58 = .ok (.iconst (-1), 1) := by decide +kernel
theorem dX12_inPlace_59 : decode cX12_inPlace 59 = .ok (.ireturn, 1) := by decide +kernel
theorem dX12_full_0 : decode cX12_full 0 = .ok (.iconst 0, 1) := by decide +kernel
theorem dX12_full_1 : decode cX12_full 1 = .ok (.istore_n 3, 1) := by decide +kernel
theorem dX12_full_2 : decode cX12_full 2 = .ok (.iconst 0, 1) := by decide +kernel
theorem dX12_full_3 : decode cX12_full 3 = .ok (.istore 4, 2) := by decide +kernel
theorem dX12_full_5 : decode cX12_full 5 = .ok (.iload 4, 2) := by decide +kernel
theorem dX12_full_7 : decode cX12_full 7 = .ok (.aload_n 0, 1) := by decide +kernel
theorem dX12_full_8 : decode cX12_full 8 = .ok (.getfield 54, 3) := by decide +kernel
theorem dX12_full_11 : decode cX12_full 11 = .ok (.aload_n 0, 1) := by decide +kernel
theorem dX12_full_12 : decode cX12_full 12 = .ok (.getfield 51, 3) := by decide +kernel
theorem dX12_full_15 : decode cX12_full 15 = .ok (.iaload, 1) := by decide +kernel
theorem dX12_full_16 : decode cX12_full 16 = .ok (.if_icmp .ge 33, 3) := by decide +kernel
theorem dX12_full_19 : decode cX12_full 19 = .ok (.iload_n 3, 1) := by decide +kernel
theorem dX12_full_20 : decode cX12_full 20 = .ok (.aload_n 0, 1) := by decide +kernel
theorem dX12_full_21 : decode cX12_full 21 = .ok (.getfield 147, 3) := by decide +kernel
theorem dX12_full_24 : decode cX12_full 24 = .ok (.bipush 8, 2) := by decide +kernel
theorem dX12_full_26 : decode cX12_full 26 = .ok (.iload_n 1, 1) := by decide +kernel
theorem dX12_full_27 : decode cX12_full 27 = .ok (.imul, 1) := by decide +kernel
theorem dX12_full_28 : decode cX12_full 28 = .ok (.iload 4, 2) := by decide +kernel
theorem dX12_full_30 : decode cX12_full 30 = .ok (.iadd, 1) := by decide +kernel
theorem dX12_full_31 : decode cX12_full 31 = .ok (.iaload, 1) := by decide +kernel
theorem dX12_full_32 : decode cX12_full 32 = .ok (.iload_n 2, 1) := by decide +kernel
theorem dX12_full_33 : decode cX12_full 33 = .ok (.if_icmp .ne 7, 3) := by decide +kernel
theorem dX12_full_36 : decode cX12_full 36 = .ok (.iconst 1, 1) := by decide +kernel
theorem dX12_full_37 : decode cX12_full 37 = .ok (.goto 4, 3) := by decide +kernel
theorem dX12_full_40 : decode cX12_full 40 = .ok (.iconst 0, 1) := by decide +kernel
theorem dX12_full_41 : decode cX12_full 41 = .ok (.iadd, 1) := by decide +kernel
theorem dX12_full_42 : decode cX12_full 42 = .ok (.istore_n 3, 1) := by decide +kernel
theorem dX12_full_43 : decode cX12_full 43 = .ok (.iinc 4 1, 3) := by decide +kernel
theorem dX12_full_46 : decode cX12_full 46 = .ok (.goto (-41), 3) := by decide +kernel
theorem dX12_full_49 : decode cX12_full 49 = .ok (.iload_n 3, 1) := by decide +kernel
theorem dX12_full_50 : decode cX12_full 50 = .ok (.ireturn, 1) := by decide +kernel
theorem dX12_burnt_0 : decode cX12_burnt 0 = .ok (.aload_n 0, 1) := by decide +kernel
theorem dX12_burnt_1 : decode cX12_burnt 1 = .ok (.getfield 162, 3) := by decide +kernel
theorem dX12_burnt_4 : decode cX12_burnt 4 = .ok (.iconst 3, 1) := by decide +kernel
theorem dX12_burnt_5 : decode cX12_burnt 5 = .ok (.iload_n 1, 1) := by decide +kernel
theorem dX12_burnt_6 : decode cX12_burnt 6 = .ok (.imul, 1) := by decide +kernel
theorem dX12_burnt_7 : decode cX12_burnt 7 = .ok (.iload_n 2, 1) := by decide +kernel
theorem dX12_burnt_8 : decode cX12_burnt 8 = .ok (.iadd, 1) := by decide +kernel
theorem dX12_burnt_9 : decode cX12_burnt 9 = .ok (.iaload, 1) := by decide +kernel
theorem dX12_burnt_10 : decode cX12_burnt 10 = .ok (.istore_n 3, 1) := by decide +kernel
theorem dX12_burnt_11 : decode cX12_burnt 11 = .ok (.aload_n 0, 1) := by decide +kernel
theorem dX12_burnt_12 : decode cX12_burnt 12 = .ok (.iconst 3, 1) := by decide +kernel
theorem dX12_burnt_13 : decode cX12_burnt 13 = .ok (.invokevirtual 409, 3) := by decide +kernel
theorem dX12_burnt_16 : decode cX12_burnt 16 = .ok (.ifCond .ne 5, 3) := by decide +kernel
theorem dX12_burnt_19 : decode cX12_burnt 19 = .ok (.iload_n 3, 1) := by decide +kernel
theorem dX12_burnt_20 : decode cX12_burnt 20 = .ok (.ireturn, 1) := by decide +kernel
theorem dX12_burnt_21 : decode cX12_burnt 21 = .ok (.aload_n 0, 1) := by decide +kernel
theorem dX12_burnt_22 : decode cX12_burnt 22 = .ok (.getfield 183, 3) := by decide +kernel
theorem dX12_burnt_25 : decode cX12_burnt 25 = .ok (.iconst 1, 1) := by decide +kernel
theorem dX12_burnt_26 : decode cX12_burnt 26 = .ok (.iload_n 3, 1) := by decide +kernel
theorem dX12_burnt_27 : decode cX12_burnt 27 = .ok (.iastore, 1) := by decide +kernel
theorem dX12_burnt_28 : decode cX12_burnt 28 = .ok (.aload_n 0, 1) := by decide +kernel
theorem dX12_burnt_29 : decode cX12_burnt 29 = .ok (.getfield 183, 3) := by decide +kernel
theorem dX12_burnt_32 : decode cX12_burnt 32 = .ok (.iconst 2, 1) := by decide +kernel
theorem dX12_burnt_33 : decode cX12_burnt 33 = .ok (.aload_n 0, 1) := by decide +kernel
theorem dX12_burnt_34 : decode cX12_burnt 34 = .ok (.getfield 141, 3) := by decide +kernel
theorem dX12_burnt_37 : decode cX12_burnt 37 = .ok (.iload_n 1, 1) := by decide +kernel
theorem dX12_burnt_38 : decode cX12_burnt 38 = .ok (.iaload, 1) := by decide +kernel
theorem dX12_burnt_39 : decode cX12_burnt 39 = .ok (.iastore, 1) := by decide +kernel
theorem dX12_burnt_40 : decode cX12_burnt 40 = .ok (.aload_n 0, 1) := by decide +kernel
theorem dX12_burnt_41 : decode cX12_burnt 41 = .ok (.getfield 183, 3) := by decide +kernel
theorem dX12_burnt_44 : decode cX12_burnt 44 = .ok (.bipush 9, 2) := by decide +kernel
theorem dX12_burnt_46 : decode cX12_burnt 46 = .ok (.aload_n 0, 1) := by decide +kernel
theorem dX12_burnt_47 : decode cX12_burnt 47 = .ok (.getfield 66, 3) := by decide +kernel
theorem dX12_burnt_50 : decode cX12_burnt 50 = .ok (.iconst 3, 1) := by decide +kernel
theorem dX12_burnt_51 : decode cX12_burnt 51 = .ok (.aload_n 0, 1) := by decide +kernel
theorem dX12_burnt_52 : decode cX12_burnt 52 = .ok (.getfield 51, 3) := by decide +kernel
theorem dX12_burnt_55 : decode cX12_burnt 55 = .ok (.imul, 1) := by decide +kernel
theorem dX12_burnt_56 : decode cX12_burnt 56 = .ok (.iload_n 2, 1) := by decide +kernel
theorem dX12_burnt_57 : decode cX12_burnt 57 = .ok (.iadd, 1) := by decide +kernel
theorem dX12_burnt_58 : decode cX12_burnt 58 = .ok (.iaload, 1) := by decide +kernel
theorem dX12_burnt_59 : decode cX12_burnt 59 = .ok (.iastore, 1) := by decide +kernel
theorem dX12_burnt_60 : decode cX12_burnt 60 = .ok (.aload_n 0, 1) := by decide +kernel
theorem dX12_burnt_61 : decode cX12_burnt 61 = .ok (.getfield 183, 3) := by decide +kernel
theorem dX12_burnt_64 : decode cX12_burnt 64 = .ok (.bipush 10, 2) := by decide +kernel
theorem dX12_burnt_66 : decode cX12_burnt 66 = .ok (.aload_n 0, 1) := by decide +kernel
theorem dX12_burnt_67 : decode cX12_burnt 67 = .ok (.iload_n 1, 1) := by decide +kernel
theorem dX12_burnt_68 : decode cX12_burnt 68 = .ok (.iload_n 2, 1) := by decide +kernel
theorem dX12_burnt_69 : decode cX12_burnt 69 = .ok (.invokevirtual 422, 3) := by decide +kernel
theorem dX12_burnt_72 : decode cX12_burnt 72 = .ok (.iastore, 1) := by decide +kernel
theorem dX12_burnt_73 : decode cX12_burnt 73 = .ok (.aload_n 0, 1) := by decide +kernel
theorem dX12_burnt_74 : decode cX12_burnt 74 = .ok (.iconst 3, 1) := by decide +kernel
theorem dX12_burnt_75 : decode cX12_burnt 75 = .ok (.invokevirtual 412, 3) := by decide +kernel
theorem dX12_burnt_78 : decode cX12_burnt 78 = .ok (.lstore 4, 2) := by decide +kernel
theorem dX12_burnt_80 : decode cX12_burnt 80 = .ok (.lload 4, 2) := by decide +kernel
theorem dX12_burnt_82 : decode cX12_burnt 82 = .ok (.lconst 0, 1) := by decide +kernel
theorem dX12_burnt_83 : decode cX12_burnt 83 = .ok (.lcmp, 1) := by decide +kernel
theorem dX12_burnt_84 : decode cX12_burnt 84 = .ok (.ifCond .ge 7, 3) := by decide +kernel
theorem dX12_burnt_87 : decode cX12_burnt 87 = .ok (.iconst 0, 1) := by decide +kernel
theorem dX12_burnt_88 : decode cX12_burnt 88 = .ok (.goto 6, 3) := by decide +kernel
theorem dX12_burnt_91 : decode cX12_burnt 91 = .ok (.lload 4, 2) := by decide +kernel
theorem dX12_burnt_93 : decode cX12_burnt 93 = .ok (.l2i, 1) := by decide +kernel
theorem dX12_burnt_94 : decode cX12_burnt 94 = .ok (.ireturn, 1) := by decide +kernel
theorem dX12_bits_0 : decode cX12_bits 0 = .ok (.iconst 0, 1) := by decide +kernel
theorem dX12_bits_1 : decode cX12_bits 1 = .ok (.istore_n 1, 1) := by decide +kernel
theorem dX12_bits_2 : decode cX12_bits 2 = .ok (.iload_n 0, 1) := by decide +kernel
theorem dX12_bits_3 : decode cX12_bits 3 = .ok (.istore_n 2, 1) := by decide +kernel
theorem dX12_bits_4 : decode cX12_bits 4 = .ok (.iload_n 2, 1) := by decide +kernel
theorem dX12_bits_5 : decode cX12_bits 5 = .ok (.ifCond .eq 15, 3) := by decide +kernel
theorem dX12_bits_8 : decode cX12_bits 8 = .ok (.iinc 1 1, 3) := by decide +kernel
theorem dX12_bits_11 : decode cX12_bits 11 = .ok (.iload_n 2, 1) := by decide +kernel
theorem dX12_bits_12 : decode cX12_bits 12 = .ok (.iload_n 2, 1) := by decide +kernel
theorem dX12_bits_13 : decode cX12_bits 13 = .ok (.iconst 1, 1) := by decide +kernel
theorem dX12_bits_14 : decode cX12_bits 14 = .ok (.isub, 1) := by decide +kernel
theorem dX12_bits_15 : decode cX12_bits 15 = .ok (.iand, 1) := by decide +kernel
theorem dX12_bits_16 : decode cX12_bits 16 = .ok (.istore_n 2, 1) := by decide +kernel
theorem dX12_bits_17 : decode cX12_bits 17 = .ok (.goto (-13), 3) := by decide +kernel
theorem dX12_bits_20 : decode cX12_bits 20 = .ok (.iload_n 1, 1) := by decide +kernel
theorem dX12_bits_21 : decode cX12_bits 21 = .ok (.ireturn, 1) := by decide +kernel
theorem dX12_writesDown_0 : decode cX12_writesDown 0 = .ok (.aload_n 0, 1) := by decide +kernel
theorem dX12_writesDown_1 : decode cX12_writesDown 1 = .ok (.getfield 165, 3) := by decide +kernel
theorem dX12_writesDown_4 : decode cX12_writesDown 4 = .ok (.iload_n 1, 1) := by decide +kernel
theorem dX12_writesDown_5 : decode cX12_writesDown 5 = .ok (.iaload, 1) := by decide +kernel
theorem dX12_writesDown_6 : decode cX12_writesDown 6 = .ok (.bipush 40, 2) := by decide +kernel
theorem dX12_writesDown_8 : decode cX12_writesDown 8 = .ok (.if_icmp .ne 58, 3) := by decide +kernel
theorem dX12_writesDown_11 : decode cX12_writesDown 11 = .ok (.sipush 160, 3) := by decide +kernel
theorem dX12_writesDown_14 : decode cX12_writesDown 14 = .ok (.iload_n 1, 1) := by decide +kernel
theorem dX12_writesDown_15 : decode cX12_writesDown 15 = .ok (.imul, 1) := by decide +kernel
theorem dX12_writesDown_16 : decode cX12_writesDown 16 = .ok (.istore 5, 2) := by decide +kernel
theorem dX12_writesDown_18 : decode cX12_writesDown 18 = .ok (.iload 5, 2) := by decide +kernel
theorem dX12_writesDown_20 : decode cX12_writesDown 20 = .ok (.sipush 160, 3) := by decide +kernel
theorem dX12_writesDown_23 : decode cX12_writesDown 23 = .ok (.iload_n 1, 1) := by decide +kernel
theorem dX12_writesDown_24 : decode cX12_writesDown 24 = .ok (.imul, 1) := by decide +kernel
theorem dX12_writesDown_25 : decode cX12_writesDown 25 = .ok (.sipush 160, 3) := by decide +kernel
theorem dX12_writesDown_28 : decode cX12_writesDown 28 = .ok (.iadd, 1) := by decide +kernel
theorem dX12_writesDown_29 : decode cX12_writesDown 29 = .ok (.iconst 4, 1) := by decide +kernel
theorem dX12_writesDown_30 : decode cX12_writesDown 30 = .ok (.isub, 1) := by decide +kernel
theorem dX12_writesDown_31 : decode cX12_writesDown 31 = .ok (.if_icmp .ge 25, 3) := by decide +kernel
theorem dX12_writesDown_34 : decode cX12_writesDown 34 = .ok (.aload_n 0, 1) := by decide +kernel
theorem dX12_writesDown_35 : decode cX12_writesDown 35 = .ok (.getfield 168, 3) := by decide +kernel
theorem dX12_writesDown_38 : decode cX12_writesDown 38 = .ok (.iload 5, 2) := by decide +kernel
theorem dX12_writesDown_40 : decode cX12_writesDown 40 = .ok (.aload_n 0, 1) := by decide +kernel
theorem dX12_writesDown_41 : decode cX12_writesDown 41 = .ok (.getfield 168, 3) := by decide +kernel
theorem dX12_writesDown_44 : decode cX12_writesDown 44 = .ok (.iload 5, 2) := by decide +kernel
theorem dX12_writesDown_46 : decode cX12_writesDown 46 = .ok (.iconst 4, 1) := by decide +kernel
theorem dX12_writesDown_47 : decode cX12_writesDown 47 = .ok (.iadd, 1) := by decide +kernel
theorem dX12_writesDown_48 : decode cX12_writesDown 48 = .ok (.iaload, 1) := by decide +kernel
theorem dX12_writesDown_49 : decode cX12_writesDown 49 = .ok (.iastore, 1) := by decide +kernel
theorem dX12_writesDown_50 : decode cX12_writesDown 50 = .ok (.iinc 5 1, 3) := by decide +kernel
theorem dX12_writesDown_53 : decode cX12_writesDown 53 = .ok (.goto (-35), 3) := by decide +kernel
theorem dX12_writesDown_56 : decode cX12_writesDown 56 = .ok (.aload_n 0, 1) := by decide +kernel
theorem dX12_writesDown_57 : decode cX12_writesDown 57 = .ok (.getfield 165, 3) := by decide +kernel
theorem dX12_writesDown_60 : decode cX12_writesDown 60 = .ok (.iload_n 1, 1) := by decide +kernel
theorem dX12_writesDown_61 : decode cX12_writesDown 61 = .ok (.dup2, 1) := by decide +kernel
theorem dX12_writesDown_62 : decode cX12_writesDown 62 = .ok (.iaload, 1) := by decide +kernel
theorem dX12_writesDown_63 : decode cX12_writesDown 63 = .ok (.iconst 1, 1) := by decide +kernel
theorem dX12_writesDown_64 : decode cX12_writesDown 64 = .ok (.isub, 1) := by decide +kernel
theorem dX12_writesDown_65 : decode cX12_writesDown 65 = .ok (.iastore, 1) := by decide +kernel
theorem dX12_writesDown_66 : decode cX12_writesDown 66 = .ok (.iconst 4, 1) := by decide +kernel
theorem dX12_writesDown_67 : decode cX12_writesDown 67 = .ok (.bipush 40, 2) := by decide +kernel
theorem dX12_writesDown_69 : decode cX12_writesDown 69 = .ok (.iload_n 1, 1) := by decide +kernel
theorem dX12_writesDown_70 : decode cX12_writesDown 70 = .ok (.imul, 1) := by decide +kernel
theorem dX12_writesDown_71 : decode cX12_writesDown 71 = .ok (.aload_n 0, 1) := by decide +kernel
theorem dX12_writesDown_72 : decode cX12_writesDown 72 = .ok (.getfield 165, 3) := by decide +kernel
theorem dX12_writesDown_75 : decode cX12_writesDown 75 = .ok (.iload_n 1, 1) := by decide +kernel
theorem dX12_writesDown_76 : decode cX12_writesDown 76 = .ok (.iaload, 1) := by decide +kernel
theorem dX12_writesDown_77 : decode cX12_writesDown 77 = .ok (.iadd, 1) := by decide +kernel
theorem dX12_writesDown_78 : decode cX12_writesDown 78 = .ok (.imul, 1) := by decide +kernel
theorem dX12_writesDown_79 : decode cX12_writesDown 79 = .ok (.istore 5, 2) := by decide +kernel
theorem dX12_writesDown_81 : decode cX12_writesDown 81 = .ok (.aload_n 0, 1) := by decide +kernel
theorem dX12_writesDown_82 : decode cX12_writesDown 82 = .ok (.getfield 168, 3) := by decide +kernel
theorem dX12_writesDown_85 : decode cX12_writesDown 85 = .ok (.iload 5, 2) := by decide +kernel
theorem dX12_writesDown_87 : decode cX12_writesDown 87 = .ok (.aload_n 0, 1) := by decide +kernel
theorem dX12_writesDown_88 : decode cX12_writesDown 88 = .ok (.getfield 141, 3) := by decide +kernel
theorem dX12_writesDown_91 : decode cX12_writesDown 91 = .ok (.iload_n 1, 1) := by decide +kernel
theorem dX12_writesDown_92 : decode cX12_writesDown 92 = .ok (.iaload, 1) := by decide +kernel
theorem dX12_writesDown_93 : decode cX12_writesDown 93 = .ok (.iastore, 1) := by decide +kernel
theorem dX12_writesDown_94 : decode cX12_writesDown 94 = .ok (.aload_n 0, 1) := by decide +kernel
theorem dX12_writesDown_95 : decode cX12_writesDown 95 = .ok (.getfield 168, 3) := by decide +kernel
theorem dX12_writesDown_98 : decode cX12_writesDown 98 = .ok (.iload 5, 2) := by decide +kernel
theorem dX12_writesDown_100 : decode cX12_writesDown 100 = .ok (.iconst 1, 1) := by decide +kernel
theorem dX12_writesDown_101 : decode cX12_writesDown 101 = .ok (.iadd, 1) := by decide +kernel
theorem dX12_writesDown_102 : decode cX12_writesDown 102 = .ok (.iload_n 2, 1) := by decide +kernel
theorem dX12_writesDown_103 : decode cX12_writesDown 103 = .ok (.iastore, 1) := by decide +kernel
theorem dX12_writesDown_104 : decode cX12_writesDown 104 = .ok (.aload_n 0, 1) := by decide +kernel
theorem dX12_writesDown_105 : decode cX12_writesDown 105 = .ok (.getfield 168, 3) := by decide +kernel
theorem dX12_writesDown_108 : decode cX12_writesDown 108 = .ok (.iload 5, 2) := by decide +kernel
theorem dX12_writesDown_110 : decode cX12_writesDown 110 = .ok (.iconst 2, 1) := by decide +kernel
theorem dX12_writesDown_111 : decode cX12_writesDown 111 = .ok (.iadd, 1) := by decide +kernel
theorem dX12_writesDown_112 : decode cX12_writesDown 112 = .ok (.iload_n 3, 1) := by decide +kernel
theorem dX12_writesDown_113 : decode cX12_writesDown 113 = .ok (.iastore, 1) := by decide +kernel
theorem dX12_writesDown_114 : decode cX12_writesDown 114 = .ok (.aload_n 0, 1) := by decide +kernel
theorem dX12_writesDown_115 : decode cX12_writesDown 115 = .ok (.getfield 168, 3) := by decide +kernel
theorem dX12_writesDown_118 : decode cX12_writesDown 118 = .ok (.iload 5, 2) := by decide +kernel
theorem dX12_writesDown_120 : decode cX12_writesDown 120 = .ok (.iconst 3, 1) := by decide +kernel
theorem dX12_writesDown_121 : decode cX12_writesDown 121 = .ok (.iadd, 1) := by decide +kernel
theorem dX12_writesDown_122 : decode cX12_writesDown 122 = .ok (.iload 4, 2) := by decide +kernel
theorem dX12_writesDown_124 : decode cX12_writesDown 124 = .ok (.iastore, 1) := by decide +kernel
theorem dX12_writesDown_125 : decode cX12_writesDown 125 = .ok (.aload_n 0, 1) := by decide +kernel
theorem dX12_writesDown_126 : decode cX12_writesDown 126 = .ok (.getfield 165, 3) := by decide +kernel
theorem dX12_writesDown_129 : decode cX12_writesDown 129 = .ok (.iload_n 1, 1) := by decide +kernel
theorem dX12_writesDown_130 : decode cX12_writesDown 130 = .ok (.dup2, 1) := by decide +kernel
theorem dX12_writesDown_131 : decode cX12_writesDown 131 = .ok (.iaload, 1) := by decide +kernel
theorem dX12_writesDown_132 : decode cX12_writesDown 132 = .ok (.iconst 1, 1) := by decide +kernel
theorem dX12_writesDown_133 : decode cX12_writesDown 133 = .ok (.iadd, 1) := by decide +kernel
theorem dX12_writesDown_134 : decode cX12_writesDown 134 = .ok (.iastore, 1) := by decide +kernel
theorem dX12_writesDown_135 : decode cX12_writesDown 135 = .ok (.return_, 1) := by decide +kernel
theorem dX12_fires_0 : decode cX12_fires 0 = .ok (.iconst 0, 1) := by decide +kernel
theorem dX12_fires_1 : decode cX12_fires 1 = .ok (.istore 4, 2) := by decide +kernel
theorem dX12_fires_3 : decode cX12_fires 3 = .ok (.iconst 0, 1) := by decide +kernel
theorem dX12_fires_4 : decode cX12_fires 4 = .ok (.istore 5, 2) := by decide +kernel
theorem dX12_fires_6 : decode cX12_fires 6 = .ok (.iload 5, 2) := by decide +kernel
theorem dX12_fires_8 : decode cX12_fires 8 = .ok (.bipush 6, 2) := by decide +kernel
theorem dX12_fires_10 : decode cX12_fires 10 = .ok (.if_icmp .ge 153, 3) := by decide +kernel
theorem dX12_fires_13 : decode cX12_fires 13 = .ok (.aload_n 0, 1) := by decide +kernel
theorem dX12_fires_14 : decode cX12_fires 14 = .ok (.iload_n 1, 1) := by decide +kernel
theorem dX12_fires_15 : decode cX12_fires 15 = .ok (.iload_n 2, 1) := by decide +kernel
theorem dX12_fires_16 : decode cX12_fires 16 = .ok (.iload 5, 2) := by decide +kernel
theorem dX12_fires_18 : decode cX12_fires 18 = .ok (.invokevirtual 425, 3) := by decide +kernel
theorem dX12_fires_21 : decode cX12_fires 21 = .ok (.istore 6, 2) := by decide +kernel
theorem dX12_fires_23 : decode cX12_fires 23 = .ok (.aload_n 0, 1) := by decide +kernel
theorem dX12_fires_24 : decode cX12_fires 24 = .ok (.iload_n 1, 1) := by decide +kernel
theorem dX12_fires_25 : decode cX12_fires 25 = .ok (.iload_n 2, 1) := by decide +kernel
theorem dX12_fires_26 : decode cX12_fires 26 = .ok (.iload 5, 2) := by decide +kernel
theorem dX12_fires_28 : decode cX12_fires 28 = .ok (.iconst 1, 1) := by decide +kernel
theorem dX12_fires_29 : decode cX12_fires 29 = .ok (.iadd, 1) := by decide +kernel
theorem dX12_fires_30 : decode cX12_fires 30 = .ok (.invokevirtual 425, 3) := by decide +kernel
theorem dX12_fires_33 : decode cX12_fires 33 = .ok (.istore 7, 2) := by decide +kernel
theorem dX12_fires_35 : decode cX12_fires 35 = .ok (.iload 6, 2) := by decide +kernel
theorem dX12_fires_37 : decode cX12_fires 37 = .ok (.iconst (-1), 1) := by decide +kernel
theorem dX12_fires_38 : decode cX12_fires 38 = .ok (.if_icmp .ne 6, 3) := by decide +kernel
theorem dX12_fires_41 : decode cX12_fires 41 = .ok (.goto 116, 3) := by decide +kernel
theorem dX12_fires_44 : decode cX12_fires 44 = .ok (.aload_n 0, 1) := by decide +kernel
theorem dX12_fires_45 : decode cX12_fires 45 = .ok (.getfield 153, 3) := by decide +kernel
theorem dX12_fires_48 : decode cX12_fires 48 = .ok (.bipush 8, 2) := by decide +kernel
theorem dX12_fires_50 : decode cX12_fires 50 = .ok (.iload_n 1, 1) := by decide +kernel
theorem dX12_fires_51 : decode cX12_fires 51 = .ok (.imul, 1) := by decide +kernel
theorem dX12_fires_52 : decode cX12_fires 52 = .ok (.iload 6, 2) := by decide +kernel
theorem dX12_fires_54 : decode cX12_fires 54 = .ok (.iadd, 1) := by decide +kernel
theorem dX12_fires_55 : decode cX12_fires 55 = .ok (.aload_n 0, 1) := by decide +kernel
theorem dX12_fires_56 : decode cX12_fires 56 = .ok (.iload_n 1, 1) := by decide +kernel
theorem dX12_fires_57 : decode cX12_fires 57 = .ok (.iload 6, 2) := by decide +kernel
theorem dX12_fires_59 : decode cX12_fires 59 = .ok (.iload_n 3, 1) := by decide +kernel
theorem dX12_fires_60 : decode cX12_fires 60 = .ok (.iload 5, 2) := by decide +kernel
theorem dX12_fires_62 : decode cX12_fires 62 = .ok (.invokevirtual 418, 3) := by decide +kernel
theorem dX12_fires_65 : decode cX12_fires 65 = .ok (.iastore, 1) := by decide +kernel
theorem dX12_fires_66 : decode cX12_fires 66 = .ok (.aload_n 0, 1) := by decide +kernel
theorem dX12_fires_67 : decode cX12_fires 67 = .ok (.iload_n 1, 1) := by decide +kernel
theorem dX12_fires_68 : decode cX12_fires 68 = .ok (.iload 6, 2) := by decide +kernel
theorem dX12_fires_70 : decode cX12_fires 70 = .ok (.iload_n 3, 1) := by decide +kernel
theorem dX12_fires_71 : decode cX12_fires 71 = .ok (.iload 5, 2) := by decide +kernel
theorem dX12_fires_73 : decode cX12_fires 73 = .ok (.invokevirtual 429, 3) := by decide +kernel
theorem dX12_fires_76 : decode cX12_fires 76 = .ok (.ifCond .eq 19, 3) := by decide +kernel
theorem dX12_fires_79 : decode cX12_fires 79 = .ok (.aload_n 0, 1) := by decide +kernel
theorem dX12_fires_80 : decode cX12_fires 80 = .ok (.getfield 159, 3) := by decide +kernel
theorem dX12_fires_83 : decode cX12_fires 83 = .ok (.iload_n 1, 1) := by decide +kernel
theorem dX12_fires_84 : decode cX12_fires 84 = .ok (.dup2, 1) := by decide +kernel
theorem dX12_fires_85 : decode cX12_fires 85 = .ok (.iaload, 1) := by decide +kernel
theorem dX12_fires_86 : decode cX12_fires 86 = .ok (.iconst 1, 1) := by decide +kernel
theorem dX12_fires_87 : decode cX12_fires 87 = .ok (.iload 6, 2) := by decide +kernel
theorem dX12_fires_89 : decode cX12_fires 89 = .ok (.ishl, 1) := by decide +kernel
theorem dX12_fires_90 : decode cX12_fires 90 = .ok (.ior, 1) := by decide +kernel
theorem dX12_fires_91 : decode cX12_fires 91 = .ok (.iastore, 1) := by decide +kernel
theorem dX12_fires_92 : decode cX12_fires 92 = .ok (.iinc 4 1, 3) := by decide +kernel
theorem dX12_fires_95 : decode cX12_fires 95 = .ok (.iload 7, 2) := by decide +kernel
theorem dX12_fires_97 : decode cX12_fires 97 = .ok (.iconst (-1), 1) := by decide +kernel
theorem dX12_fires_98 : decode cX12_fires 98 = .ok (.if_icmp .eq 59, 3) := by decide +kernel
theorem dX12_fires_101 : decode cX12_fires 101 = .ok (.aload_n 0, 1) := by decide +kernel
theorem dX12_fires_102 : decode cX12_fires 102 = .ok (.iload_n 1, 1) := by decide +kernel
theorem dX12_fires_103 : decode cX12_fires 103 = .ok (.iload 6, 2) := by decide +kernel
theorem dX12_fires_105 : decode cX12_fires 105 = .ok (.iload 7, 2) := by decide +kernel
theorem dX12_fires_107 : decode cX12_fires 107 = .ok (.iload_n 3, 1) := by decide +kernel
theorem dX12_fires_108 : decode cX12_fires 108 = .ok (.iload 5, 2) := by decide +kernel
theorem dX12_fires_110 : decode cX12_fires 110 = .ok (.invokevirtual 433, 3) := by decide +kernel
theorem dX12_fires_113 : decode cX12_fires 113 = .ok (.ifCond .ne 6, 3) := by decide +kernel
theorem dX12_fires_116 : decode cX12_fires 116 = .ok (.goto 41, 3) := by decide +kernel
theorem dX12_fires_119 : decode cX12_fires 119 = .ok (.aload_n 0, 1) := by decide +kernel
theorem dX12_fires_120 : decode cX12_fires 120 = .ok (.getfield 156, 3) := by decide +kernel
theorem dX12_fires_123 : decode cX12_fires 123 = .ok (.bipush 8, 2) := by decide +kernel
theorem dX12_fires_125 : decode cX12_fires 125 = .ok (.iload_n 1, 1) := by decide +kernel
theorem dX12_fires_126 : decode cX12_fires 126 = .ok (.imul, 1) := by decide +kernel
theorem dX12_fires_127 : decode cX12_fires 127 = .ok (.iload 6, 2) := by decide +kernel
theorem dX12_fires_129 : decode cX12_fires 129 = .ok (.iadd, 1) := by decide +kernel
theorem dX12_fires_130 : decode cX12_fires 130 = .ok (.dup2, 1) := by decide +kernel
theorem dX12_fires_131 : decode cX12_fires 131 = .ok (.iaload, 1) := by decide +kernel
theorem dX12_fires_132 : decode cX12_fires 132 = .ok (.iconst 1, 1) := by decide +kernel
theorem dX12_fires_133 : decode cX12_fires 133 = .ok (.iload 7, 2) := by decide +kernel
theorem dX12_fires_135 : decode cX12_fires 135 = .ok (.ishl, 1) := by decide +kernel
theorem dX12_fires_136 : decode cX12_fires 136 = .ok (.ior, 1) := by decide +kernel
theorem dX12_fires_137 : decode cX12_fires 137 = .ok (.iastore, 1) := by decide +kernel
theorem dX12_fires_138 : decode cX12_fires 138 = .ok (.aload_n 0, 1) := by decide +kernel
theorem dX12_fires_139 : decode cX12_fires 139 = .ok (.getfield 156, 3) := by decide +kernel
theorem dX12_fires_142 : decode cX12_fires 142 = .ok (.bipush 8, 2) := by decide +kernel
theorem dX12_fires_144 : decode cX12_fires 144 = .ok (.iload_n 1, 1) := by decide +kernel
theorem dX12_fires_145 : decode cX12_fires 145 = .ok (.imul, 1) := by decide +kernel
theorem dX12_fires_146 : decode cX12_fires 146 = .ok (.iload 7, 2) := by decide +kernel
theorem dX12_fires_148 : decode cX12_fires 148 = .ok (.iadd, 1) := by decide +kernel
theorem dX12_fires_149 : decode cX12_fires 149 = .ok (.dup2, 1) := by decide +kernel
theorem dX12_fires_150 : decode cX12_fires 150 = .ok (.iaload, 1) := by decide +kernel
theorem dX12_fires_151 : decode cX12_fires 151 = .ok (.iconst 1, 1) := by decide +kernel
theorem dX12_fires_152 : decode cX12_fires 152 = .ok (.iload 6, 2) := by decide +kernel
theorem dX12_fires_154 : decode cX12_fires 154 = .ok (.ishl, 1) := by decide +kernel
theorem dX12_fires_155 : decode cX12_fires 155 = .ok (.ior, 1) := by decide +kernel
theorem dX12_fires_156 : decode cX12_fires 156 = .ok (.iastore, 1) := by decide +kernel
theorem dX12_fires_157 : decode cX12_fires 157 = .ok (.iinc 5 1, 3) := by decide +kernel
theorem dX12_fires_160 : decode cX12_fires 160 = .ok (.goto (-154), 3) := by decide +kernel
theorem dX12_fires_163 : decode cX12_fires 163 = .ok (.iconst 0, 1) := by decide +kernel
theorem dX12_fires_164 : decode cX12_fires 164 = .ok (.istore 5, 2) := by decide +kernel
theorem dX12_fires_166 : decode cX12_fires 166 = .ok (.iload 5, 2) := by decide +kernel
theorem dX12_fires_168 : decode cX12_fires 168 = .ok (.aload_n 0, 1) := by decide +kernel
theorem dX12_fires_169 : decode cX12_fires 169 = .ok (.getfield 54, 3) := by decide +kernel
theorem dX12_fires_172 : decode cX12_fires 172 = .ok (.aload_n 0, 1) := by decide +kernel
theorem dX12_fires_173 : decode cX12_fires 173 = .ok (.getfield 51, 3) := by decide +kernel
theorem dX12_fires_176 : decode cX12_fires 176 = .ok (.iaload, 1) := by decide +kernel
theorem dX12_fires_177 : decode cX12_fires 177 = .ok (.if_icmp .ge 54, 3) := by decide +kernel
theorem dX12_fires_180 : decode cX12_fires 180 = .ok (.aload_n 0, 1) := by decide +kernel
theorem dX12_fires_181 : decode cX12_fires 181 = .ok (.getfield 147, 3) := by decide +kernel
theorem dX12_fires_184 : decode cX12_fires 184 = .ok (.bipush 8, 2) := by decide +kernel
theorem dX12_fires_186 : decode cX12_fires 186 = .ok (.iload_n 1, 1) := by decide +kernel
theorem dX12_fires_187 : decode cX12_fires 187 = .ok (.imul, 1) := by decide +kernel
theorem dX12_fires_188 : decode cX12_fires 188 = .ok (.iload 5, 2) := by decide +kernel
theorem dX12_fires_190 : decode cX12_fires 190 = .ok (.iadd, 1) := by decide +kernel
theorem dX12_fires_191 : decode cX12_fires 191 = .ok (.iaload, 1) := by decide +kernel
theorem dX12_fires_192 : decode cX12_fires 192 = .ok (.iload_n 2, 1) := by decide +kernel
theorem dX12_fires_193 : decode cX12_fires 193 = .ok (.if_icmp .eq 6, 3) := by decide +kernel
theorem dX12_fires_196 : decode cX12_fires 196 = .ok (.goto 29, 3) := by decide +kernel
theorem dX12_fires_199 : decode cX12_fires 199 = .ok (.aload_n 0, 1) := by decide +kernel
theorem dX12_fires_200 : decode cX12_fires 200 = .ok (.getfield 147, 3) := by decide +kernel
theorem dX12_fires_203 : decode cX12_fires 203 = .ok (.bipush 8, 2) := by decide +kernel
theorem dX12_fires_205 : decode cX12_fires 205 = .ok (.iload_n 1, 1) := by decide +kernel
theorem dX12_fires_206 : decode cX12_fires 206 = .ok (.imul, 1) := by decide +kernel
theorem dX12_fires_207 : decode cX12_fires 207 = .ok (.iload 5, 2) := by decide +kernel
theorem dX12_fires_209 : decode cX12_fires 209 = .ok (.iadd, 1) := by decide +kernel
theorem dX12_fires_210 : decode cX12_fires 210 = .ok (.iconst (-1), 1) := by decide +kernel
theorem dX12_fires_211 : decode cX12_fires 211 = .ok (.iastore, 1) := by decide +kernel
theorem dX12_fires_212 : decode cX12_fires 212 = .ok (.aload_n 0, 1) := by decide +kernel
theorem dX12_fires_213 : decode cX12_fires 213 = .ok (.getfield 150, 3) := by decide +kernel
theorem dX12_fires_216 : decode cX12_fires 216 = .ok (.bipush 8, 2) := by decide +kernel
theorem dX12_fires_218 : decode cX12_fires 218 = .ok (.iload_n 1, 1) := by decide +kernel
theorem dX12_fires_219 : decode cX12_fires 219 = .ok (.imul, 1) := by decide +kernel
theorem dX12_fires_220 : decode cX12_fires 220 = .ok (.iload 5, 2) := by decide +kernel
theorem dX12_fires_222 : decode cX12_fires 222 = .ok (.iadd, 1) := by decide +kernel
theorem dX12_fires_223 : decode cX12_fires 223 = .ok (.iconst (-1), 1) := by decide +kernel
theorem dX12_fires_224 : decode cX12_fires 224 = .ok (.iastore, 1) := by decide +kernel
theorem dX12_fires_225 : decode cX12_fires 225 = .ok (.iinc 5 1, 3) := by decide +kernel
theorem dX12_fires_228 : decode cX12_fires 228 = .ok (.goto (-62), 3) := by decide +kernel
theorem dX12_fires_231 : decode cX12_fires 231 = .ok (.aload_n 0, 1) := by decide +kernel
theorem dX12_fires_232 : decode cX12_fires 232 = .ok (.getfield 162, 3) := by decide +kernel
theorem dX12_fires_235 : decode cX12_fires 235 = .ok (.iconst 3, 1) := by decide +kernel
theorem dX12_fires_236 : decode cX12_fires 236 = .ok (.iload_n 1, 1) := by decide +kernel
theorem dX12_fires_237 : decode cX12_fires 237 = .ok (.imul, 1) := by decide +kernel
theorem dX12_fires_238 : decode cX12_fires 238 = .ok (.iload_n 2, 1) := by decide +kernel
theorem dX12_fires_239 : decode cX12_fires 239 = .ok (.iadd, 1) := by decide +kernel
theorem dX12_fires_240 : decode cX12_fires 240 = .ok (.iconst (-1), 1) := by decide +kernel
theorem dX12_fires_241 : decode cX12_fires 241 = .ok (.iastore, 1) := by decide +kernel
theorem dX12_fires_242 : decode cX12_fires 242 = .ok (.aload_n 0, 1) := by decide +kernel
theorem dX12_fires_243 : decode cX12_fires 243 = .ok (.iload_n 1, 1) := by decide +kernel
theorem dX12_fires_244 : decode cX12_fires 244 = .ok (.iload_n 2, 1) := by decide +kernel
theorem dX12_fires_245 : decode cX12_fires 245 = .ok (.iload_n 3, 1) := by decide +kernel
theorem dX12_fires_246 : decode cX12_fires 246 = .ok (.iload 4, 2) := by decide +kernel
theorem dX12_fires_248 : decode cX12_fires 248 = .ok (.invokevirtual 437, 3) := by decide +kernel
theorem dX12_fires_251 : decode cX12_fires 251 = .ok (.return_, 1) := by decide +kernel
theorem dX12_ticks_0 : decode cX12_ticks 0 = .ok (.aload_n 0, 1) := by decide +kernel
theorem dX12_ticks_1 : decode cX12_ticks 1 = .ok (.iconst 0, 1) := by decide +kernel
theorem dX12_ticks_2 : decode cX12_ticks 2 = .ok (.putfield 186, 3) := by decide +kernel
theorem dX12_ticks_5 : decode cX12_ticks 5 = .ok (.aload_n 0, 1) := by decide +kernel
theorem dX12_ticks_6 : decode cX12_ticks 6 = .ok (.getfield 144, 3) := by decide +kernel
theorem dX12_ticks_9 : decode cX12_ticks 9 = .ok (.iload_n 1, 1) := by decide +kernel
theorem dX12_ticks_10 : decode cX12_ticks 10 = .ok (.iaload, 1) := by decide +kernel
theorem dX12_ticks_11 : decode cX12_ticks 11 = .ok (.aload_n 0, 1) := by decide +kernel
theorem dX12_ticks_12 : decode cX12_ticks 12 = .ok (.getfield 72, 3) := by decide +kernel
theorem dX12_ticks_15 : decode cX12_ticks 15 = .ok (.aload_n 0, 1) := by decide +kernel
theorem dX12_ticks_16 : decode cX12_ticks 16 = .ok (.getfield 51, 3) := by decide +kernel
theorem dX12_ticks_19 : decode cX12_ticks 19 = .ok (.iaload, 1) := by decide +kernel
theorem dX12_ticks_20 : decode cX12_ticks 20 = .ok (.iadd, 1) := by decide +kernel
theorem dX12_ticks_21 : decode cX12_ticks 21 = .ok (.istore_n 3, 1) := by decide +kernel
theorem dX12_ticks_22 : decode cX12_ticks 22 = .ok (.aload_n 0, 1) := by decide +kernel
theorem dX12_ticks_23 : decode cX12_ticks 23 = .ok (.getfield 144, 3) := by decide +kernel
theorem dX12_ticks_26 : decode cX12_ticks 26 = .ok (.iload_n 1, 1) := by decide +kernel
theorem dX12_ticks_27 : decode cX12_ticks 27 = .ok (.iload_n 3, 1) := by decide +kernel
theorem dX12_ticks_28 : decode cX12_ticks 28 = .ok (.sipush 9999, 3) := by decide +kernel
theorem dX12_ticks_31 : decode cX12_ticks 31 = .ok (.if_icmp .le 9, 3) := by decide +kernel
theorem dX12_ticks_34 : decode cX12_ticks 34 = .ok (.sipush 9999, 3) := by decide +kernel
theorem dX12_ticks_37 : decode cX12_ticks 37 = .ok (.goto 4, 3) := by decide +kernel
theorem dX12_ticks_40 : decode cX12_ticks 40 = .ok (.iload_n 3, 1) := by decide +kernel
theorem dX12_ticks_41 : decode cX12_ticks 41 = .ok (.iastore, 1) := by decide +kernel
theorem dX12_ticks_42 : decode cX12_ticks 42 = .ok (.iconst 0, 1) := by decide +kernel
theorem dX12_ticks_43 : decode cX12_ticks 43 = .ok (.istore 4, 2) := by decide +kernel
theorem dX12_ticks_45 : decode cX12_ticks 45 = .ok (.iload 4, 2) := by decide +kernel
theorem dX12_ticks_47 : decode cX12_ticks 47 = .ok (.aload_n 0, 1) := by decide +kernel
theorem dX12_ticks_48 : decode cX12_ticks 48 = .ok (.getfield 63, 3) := by decide +kernel
theorem dX12_ticks_51 : decode cX12_ticks 51 = .ok (.aload_n 0, 1) := by decide +kernel
theorem dX12_ticks_52 : decode cX12_ticks 52 = .ok (.getfield 51, 3) := by decide +kernel
theorem dX12_ticks_55 : decode cX12_ticks 55 = .ok (.iaload, 1) := by decide +kernel
theorem dX12_ticks_56 : decode cX12_ticks 56 = .ok (.if_icmp .ge 118, 3) := by decide +kernel
theorem dX12_ticks_59 : decode cX12_ticks 59 = .ok (.aload_n 0, 1) := by decide +kernel
theorem dX12_ticks_60 : decode cX12_ticks 60 = .ok (.getfield 162, 3) := by decide +kernel
theorem dX12_ticks_63 : decode cX12_ticks 63 = .ok (.iconst 3, 1) := by decide +kernel
theorem dX12_ticks_64 : decode cX12_ticks 64 = .ok (.iload_n 1, 1) := by decide +kernel
theorem dX12_ticks_65 : decode cX12_ticks 65 = .ok (.imul, 1) := by decide +kernel
theorem dX12_ticks_66 : decode cX12_ticks 66 = .ok (.iload 4, 2) := by decide +kernel
theorem dX12_ticks_68 : decode cX12_ticks 68 = .ok (.iadd, 1) := by decide +kernel
theorem dX12_ticks_69 : decode cX12_ticks 69 = .ok (.iaload, 1) := by decide +kernel
theorem dX12_ticks_70 : decode cX12_ticks 70 = .ok (.iconst (-1), 1) := by decide +kernel
theorem dX12_ticks_71 : decode cX12_ticks 71 = .ok (.if_icmp .eq 97, 3) := by decide +kernel
theorem dX12_ticks_74 : decode cX12_ticks 74 = .ok (.aload_n 0, 1) := by decide +kernel
theorem dX12_ticks_75 : decode cX12_ticks 75 = .ok (.iload_n 1, 1) := by decide +kernel
theorem dX12_ticks_76 : decode cX12_ticks 76 = .ok (.iload 4, 2) := by decide +kernel
theorem dX12_ticks_78 : decode cX12_ticks 78 = .ok (.invokevirtual 422, 3) := by decide +kernel
theorem dX12_ticks_81 : decode cX12_ticks 81 = .ok (.ifCond .eq 87, 3) := by decide +kernel
theorem dX12_ticks_84 : decode cX12_ticks 84 = .ok (.aload_n 0, 1) := by decide +kernel
theorem dX12_ticks_85 : decode cX12_ticks 85 = .ok (.iload_n 1, 1) := by decide +kernel
theorem dX12_ticks_86 : decode cX12_ticks 86 = .ok (.iload 4, 2) := by decide +kernel
theorem dX12_ticks_88 : decode cX12_ticks 88 = .ok (.invokevirtual 440, 3) := by decide +kernel
theorem dX12_ticks_91 : decode cX12_ticks 91 = .ok (.aload_n 0, 1) := by decide +kernel
theorem dX12_ticks_92 : decode cX12_ticks 92 = .ok (.getfield 144, 3) := by decide +kernel
theorem dX12_ticks_95 : decode cX12_ticks 95 = .ok (.iload_n 1, 1) := by decide +kernel
theorem dX12_ticks_96 : decode cX12_ticks 96 = .ok (.iaload, 1) := by decide +kernel
theorem dX12_ticks_97 : decode cX12_ticks 97 = .ok (.if_icmp .le 6, 3) := by decide +kernel
theorem dX12_ticks_100 : decode cX12_ticks 100 = .ok (.goto 68, 3) := by decide +kernel
theorem dX12_ticks_103 : decode cX12_ticks 103 = .ok (.aload_n 0, 1) := by decide +kernel
theorem dX12_ticks_104 : decode cX12_ticks 104 = .ok (.getfield 144, 3) := by decide +kernel
theorem dX12_ticks_107 : decode cX12_ticks 107 = .ok (.iload_n 1, 1) := by decide +kernel
theorem dX12_ticks_108 : decode cX12_ticks 108 = .ok (.dup2, 1) := by decide +kernel
theorem dX12_ticks_109 : decode cX12_ticks 109 = .ok (.iaload, 1) := by decide +kernel
theorem dX12_ticks_110 : decode cX12_ticks 110 = .ok (.aload_n 0, 1) := by decide +kernel
theorem dX12_ticks_111 : decode cX12_ticks 111 = .ok (.iload_n 1, 1) := by decide +kernel
theorem dX12_ticks_112 : decode cX12_ticks 112 = .ok (.iload 4, 2) := by decide +kernel
theorem dX12_ticks_114 : decode cX12_ticks 114 = .ok (.invokevirtual 440, 3) := by decide +kernel
theorem dX12_ticks_117 : decode cX12_ticks 117 = .ok (.isub, 1) := by decide +kernel
theorem dX12_ticks_118 : decode cX12_ticks 118 = .ok (.iastore, 1) := by decide +kernel
theorem dX12_ticks_119 : decode cX12_ticks 119 = .ok (.aload_n 0, 1) := by decide +kernel
theorem dX12_ticks_120 : decode cX12_ticks 120 = .ok (.getfield 162, 3) := by decide +kernel
theorem dX12_ticks_123 : decode cX12_ticks 123 = .ok (.iconst 3, 1) := by decide +kernel
theorem dX12_ticks_124 : decode cX12_ticks 124 = .ok (.iload_n 1, 1) := by decide +kernel
theorem dX12_ticks_125 : decode cX12_ticks 125 = .ok (.imul, 1) := by decide +kernel
theorem dX12_ticks_126 : decode cX12_ticks 126 = .ok (.iload 4, 2) := by decide +kernel
theorem dX12_ticks_128 : decode cX12_ticks 128 = .ok (.iadd, 1) := by decide +kernel
theorem dX12_ticks_129 : decode cX12_ticks 129 = .ok (.iaload, 1) := by decide +kernel
theorem dX12_ticks_130 : decode cX12_ticks 130 = .ok (.iload_n 2, 1) := by decide +kernel
theorem dX12_ticks_131 : decode cX12_ticks 131 = .ok (.iadd, 1) := by decide +kernel
theorem dX12_ticks_132 : decode cX12_ticks 132 = .ok (.istore 5, 2) := by decide +kernel
theorem dX12_ticks_134 : decode cX12_ticks 134 = .ok (.aload_n 0, 1) := by decide +kernel
theorem dX12_ticks_135 : decode cX12_ticks 135 = .ok (.iload_n 1, 1) := by decide +kernel
theorem dX12_ticks_136 : decode cX12_ticks 136 = .ok (.iload 4, 2) := by decide +kernel
theorem dX12_ticks_138 : decode cX12_ticks 138 = .ok (.iload 5, 2) := by decide +kernel
theorem dX12_ticks_140 : decode cX12_ticks 140 = .ok (.bipush 20, 2) := by decide +kernel
theorem dX12_ticks_142 : decode cX12_ticks 142 = .ok (.if_icmp .le 8, 3) := by decide +kernel
theorem dX12_ticks_145 : decode cX12_ticks 145 = .ok (.bipush 20, 2) := by decide +kernel
theorem dX12_ticks_147 : decode cX12_ticks 147 = .ok (.goto 5, 3) := by decide +kernel
theorem dX12_ticks_150 : decode cX12_ticks 150 = .ok (.iload 5, 2) := by decide +kernel
theorem dX12_ticks_152 : decode cX12_ticks 152 = .ok (.invokevirtual 443, 3) := by decide +kernel
theorem dX12_ticks_155 : decode cX12_ticks 155 = .ok (.aload_n 0, 1) := by decide +kernel
theorem dX12_ticks_156 : decode cX12_ticks 156 = .ok (.dup, 1) := by decide +kernel
theorem dX12_ticks_157 : decode cX12_ticks 157 = .ok (.getfield 186, 3) := by decide +kernel
theorem dX12_ticks_160 : decode cX12_ticks 160 = .ok (.iconst 1, 1) := by decide +kernel
theorem dX12_ticks_161 : decode cX12_ticks 161 = .ok (.iload 4, 2) := by decide +kernel
theorem dX12_ticks_163 : decode cX12_ticks 163 = .ok (.ishl, 1) := by decide +kernel
theorem dX12_ticks_164 : decode cX12_ticks 164 = .ok (.ior, 1) := by decide +kernel
theorem dX12_ticks_165 : decode cX12_ticks 165 = .ok (.putfield 186, 3) := by decide +kernel
theorem dX12_ticks_168 : decode cX12_ticks 168 = .ok (.iinc 4 1, 3) := by decide +kernel
theorem dX12_ticks_171 : decode cX12_ticks 171 = .ok (.goto (-126), 3) := by decide +kernel
theorem dX12_ticks_174 : decode cX12_ticks 174 = .ok (.aload_n 0, 1) := by decide +kernel
theorem dX12_ticks_175 : decode cX12_ticks 175 = .ok (.getfield 141, 3) := by decide +kernel
theorem dX12_ticks_178 : decode cX12_ticks 178 = .ok (.iload_n 1, 1) := by decide +kernel
theorem dX12_ticks_179 : decode cX12_ticks 179 = .ok (.dup2, 1) := by decide +kernel
theorem dX12_ticks_180 : decode cX12_ticks 180 = .ok (.iaload, 1) := by decide +kernel
theorem dX12_ticks_181 : decode cX12_ticks 181 = .ok (.iconst 1, 1) := by decide +kernel
theorem dX12_ticks_182 : decode cX12_ticks 182 = .ok (.iadd, 1) := by decide +kernel
theorem dX12_ticks_183 : decode cX12_ticks 183 = .ok (.iastore, 1) := by decide +kernel
theorem dX12_ticks_184 : decode cX12_ticks 184 = .ok (.return_, 1) := by decide +kernel
theorem dX12_isChild_0 : decode cX12_isChild 0 = .ok (.iload_n 1, 1) := by decide +kernel
theorem dX12_isChild_1 : decode cX12_isChild 1 = .ok (.ifCond .lt 20, 3) := by decide +kernel
theorem dX12_isChild_4 : decode cX12_isChild 4 = .ok (.iload_n 1, 1) := by decide +kernel
theorem dX12_isChild_5 : decode cX12_isChild 5 = .ok (.aload_n 0, 1) := by decide +kernel
theorem dX12_isChild_6 : decode cX12_isChild 6 = .ok (.getfield 54, 3) := by decide +kernel
theorem dX12_isChild_9 : decode cX12_isChild 9 = .ok (.aload_n 0, 1) := by decide +kernel
theorem dX12_isChild_10 : decode cX12_isChild 10 = .ok (.getfield 51, 3) := by decide +kernel
theorem dX12_isChild_13 : decode cX12_isChild 13 = .ok (.iaload, 1) := by decide +kernel
theorem dX12_isChild_14 : decode cX12_isChild 14 = .ok (.if_icmp .ge 7, 3) := by decide +kernel
theorem dX12_isChild_17 : decode cX12_isChild 17 = .ok (.iconst 1, 1) := by decide +kernel
theorem dX12_isChild_18 : decode cX12_isChild 18 = .ok (.goto 4, 3) := by decide +kernel
theorem dX12_isChild_21 : decode cX12_isChild 21 = .ok (.iconst 0, 1) := by decide +kernel
theorem dX12_isChild_22 : decode cX12_isChild 22 = .ok (.ireturn, 1) := by decide +kernel
theorem dX12_isKiln_0 : decode cX12_isKiln 0 = .ok (.iload_n 1, 1) := by decide +kernel
theorem dX12_isKiln_1 : decode cX12_isKiln 1 = .ok (.ifCond .lt 20, 3) := by decide +kernel
theorem dX12_isKiln_4 : decode cX12_isKiln 4 = .ok (.iload_n 1, 1) := by decide +kernel
theorem dX12_isKiln_5 : decode cX12_isKiln 5 = .ok (.aload_n 0, 1) := by decide +kernel
theorem dX12_isKiln_6 : decode cX12_isKiln 6 = .ok (.getfield 63, 3) := by decide +kernel
theorem dX12_isKiln_9 : decode cX12_isKiln 9 = .ok (.aload_n 0, 1) := by decide +kernel
theorem dX12_isKiln_10 : decode cX12_isKiln 10 = .ok (.getfield 51, 3) := by decide +kernel
theorem dX12_isKiln_13 : decode cX12_isKiln 13 = .ok (.iaload, 1) := by decide +kernel
theorem dX12_isKiln_14 : decode cX12_isKiln 14 = .ok (.if_icmp .ge 7, 3) := by decide +kernel
theorem dX12_isKiln_17 : decode cX12_isKiln 17 = .ok (.iconst 1, 1) := by decide +kernel
theorem dX12_isKiln_18 : decode cX12_isKiln 18 = .ok (.goto 4, 3) := by decide +kernel
theorem dX12_isKiln_21 : decode cX12_isKiln 21 = .ok (.iconst 0, 1) := by decide +kernel
theorem dX12_isKiln_22 : decode cX12_isKiln 22 = .ok (.ireturn, 1) := by decide +kernel
theorem dX12_isPlaceOf_0 : decode cX12_isPlaceOf 0 = .ok (.aload_n 0, 1) := by decide +kernel
theorem dX12_isPlaceOf_1 : decode cX12_isPlaceOf 1 = .ok (.iload_n 1, 1) := by decide +kernel
theorem dX12_isPlaceOf_2 : decode cX12_isPlaceOf 2 = .ok (.invokevirtual 447, 3) := by decide +kernel
theorem dX12_isPlaceOf_5 : decode cX12_isPlaceOf 5 = .ok (.ifCond .eq 30, 3) := by decide +kernel
theorem dX12_isPlaceOf_8 : decode cX12_isPlaceOf 8 = .ok (.iload_n 2, 1) := by decide +kernel
theorem dX12_isPlaceOf_9 : decode cX12_isPlaceOf 9 = .ok (.iconst 0, 1) := by decide +kernel
theorem dX12_isPlaceOf_10 : decode cX12_isPlaceOf 10 = .ok (.aload_n 0, 1) := by decide +kernel
theorem dX12_isPlaceOf_11 : decode cX12_isPlaceOf 11 = .ok (.getfield 66, 3) := by decide +kernel
theorem dX12_isPlaceOf_14 : decode cX12_isPlaceOf 14 = .ok (.iconst 3, 1) := by decide +kernel
theorem dX12_isPlaceOf_15 : decode cX12_isPlaceOf 15 = .ok (.aload_n 0, 1) := by decide +kernel
theorem dX12_isPlaceOf_16 : decode cX12_isPlaceOf 16 = .ok (.getfield 51, 3) := by decide +kernel
theorem dX12_isPlaceOf_19 : decode cX12_isPlaceOf 19 = .ok (.imul, 1) := by decide +kernel
theorem dX12_isPlaceOf_20 : decode cX12_isPlaceOf 20 = .ok (.iload_n 1, 1) := by decide +kernel
theorem dX12_isPlaceOf_21 : decode cX12_isPlaceOf 21 = .ok (.iadd, 1) := by decide +kernel
theorem dX12_isPlaceOf_22 : decode cX12_isPlaceOf 22 = .ok (.iaload, 1) := by decide +kernel
theorem dX12_isPlaceOf_23 : decode cX12_isPlaceOf 23 = .ok (.iconst 1, 1) := by decide +kernel
theorem dX12_isPlaceOf_24 : decode cX12_isPlaceOf 24 = .ok (.isub, 1) := by decide +kernel
theorem dX12_isPlaceOf_25 : decode cX12_isPlaceOf 25 = .ok (.invokestatic 296, 3) := by decide +kernel
theorem dX12_isPlaceOf_28 : decode cX12_isPlaceOf 28 = .ok (.ifCond .eq 7, 3) := by decide +kernel
theorem dX12_isPlaceOf_31 : decode cX12_isPlaceOf 31 = .ok (.iconst 1, 1) := by decide +kernel
theorem dX12_isPlaceOf_32 : decode cX12_isPlaceOf 32 = .ok (.goto 4, 3) := by decide +kernel
theorem dX12_isPlaceOf_35 : decode cX12_isPlaceOf 35 = .ok (.iconst 0, 1) := by decide +kernel
theorem dX12_isPlaceOf_36 : decode cX12_isPlaceOf 36 = .ok (.ireturn, 1) := by decide +kernel
theorem dX12_has_0 : decode cX12_has 0 = .ok (.iconst 0, 1) := by decide +kernel
theorem dX12_has_1 : decode cX12_has 1 = .ok (.istore_n 2, 1) := by decide +kernel
theorem dX12_has_2 : decode cX12_has 2 = .ok (.iload_n 1, 1) := by decide +kernel
theorem dX12_has_3 : decode cX12_has 3 = .ok (.tableswitch 251 0 11 #[61, 71, 81, 88, 95, 136, 177, 187, 228, 235, 240, 245], 61) := by decide +kernel
theorem dX12_has_64 : decode cX12_has 64 = .ok (.aload_n 0, 1) := by decide +kernel
theorem dX12_has_65 : decode cX12_has 65 = .ok (.getfield 54, 3) := by decide +kernel
theorem dX12_has_68 : decode cX12_has 68 = .ok (.aload_n 0, 1) := by decide +kernel
theorem dX12_has_69 : decode cX12_has 69 = .ok (.getfield 51, 3) := by decide +kernel
theorem dX12_has_72 : decode cX12_has 72 = .ok (.iaload, 1) := by decide +kernel
theorem dX12_has_73 : decode cX12_has 73 = .ok (.ireturn, 1) := by decide +kernel
theorem dX12_has_74 : decode cX12_has 74 = .ok (.aload_n 0, 1) := by decide +kernel
theorem dX12_has_75 : decode cX12_has 75 = .ok (.getfield 63, 3) := by decide +kernel
theorem dX12_has_78 : decode cX12_has 78 = .ok (.aload_n 0, 1) := by decide +kernel
theorem dX12_has_79 : decode cX12_has 79 = .ok (.getfield 51, 3) := by decide +kernel
theorem dX12_has_82 : decode cX12_has 82 = .ok (.iaload, 1) := by decide +kernel
theorem dX12_has_83 : decode cX12_has 83 = .ok (.ireturn, 1) := by decide +kernel
theorem dX12_has_84 : decode cX12_has 84 = .ok (.aload_n 0, 1) := by decide +kernel
theorem dX12_has_85 : decode cX12_has 85 = .ok (.getfield 141, 3) := by decide +kernel
theorem dX12_has_88 : decode cX12_has 88 = .ok (.iconst 0, 1) := by decide +kernel
theorem dX12_has_89 : decode cX12_has 89 = .ok (.iaload, 1) := by decide +kernel
theorem dX12_has_90 : decode cX12_has 90 = .ok (.ireturn, 1) := by decide +kernel
theorem dX12_has_91 : decode cX12_has 91 = .ok (.aload_n 0, 1) := by decide +kernel
theorem dX12_has_92 : decode cX12_has 92 = .ok (.getfield 144, 3) := by decide +kernel
theorem dX12_has_95 : decode cX12_has 95 = .ok (.iconst 0, 1) := by decide +kernel
theorem dX12_has_96 : decode cX12_has 96 = .ok (.iaload, 1) := by decide +kernel
theorem dX12_has_97 : decode cX12_has 97 = .ok (.ireturn, 1) := by decide +kernel
theorem dX12_has_98 : decode cX12_has 98 = .ok (.iconst 0, 1) := by decide +kernel
theorem dX12_has_99 : decode cX12_has 99 = .ok (.istore_n 3, 1) := by decide +kernel
theorem dX12_has_100 : decode cX12_has 100 = .ok (.iload_n 3, 1) := by decide +kernel
theorem dX12_has_101 : decode cX12_has 101 = .ok (.aload_n 0, 1) := by decide +kernel
theorem dX12_has_102 : decode cX12_has 102 = .ok (.getfield 54, 3) := by decide +kernel
theorem dX12_has_105 : decode cX12_has 105 = .ok (.aload_n 0, 1) := by decide +kernel
theorem dX12_has_106 : decode cX12_has 106 = .ok (.getfield 51, 3) := by decide +kernel
theorem dX12_has_109 : decode cX12_has 109 = .ok (.iaload, 1) := by decide +kernel
theorem dX12_has_110 : decode cX12_has 110 = .ok (.if_icmp .ge 27, 3) := by decide +kernel
theorem dX12_has_113 : decode cX12_has 113 = .ok (.iload_n 2, 1) := by decide +kernel
theorem dX12_has_114 : decode cX12_has 114 = .ok (.aload_n 0, 1) := by decide +kernel
theorem dX12_has_115 : decode cX12_has 115 = .ok (.getfield 147, 3) := by decide +kernel
theorem dX12_has_118 : decode cX12_has 118 = .ok (.iload_n 3, 1) := by decide +kernel
theorem dX12_has_119 : decode cX12_has 119 = .ok (.iaload, 1) := by decide +kernel
theorem dX12_has_120 : decode cX12_has 120 = .ok (.iconst (-1), 1) := by decide +kernel
theorem dX12_has_121 : decode cX12_has 121 = .ok (.if_icmp .ne 7, 3) := by decide +kernel
theorem dX12_has_124 : decode cX12_has 124 = .ok (.iconst 0, 1) := by decide +kernel
theorem dX12_has_125 : decode cX12_has 125 = .ok (.goto 4, 3) := by decide +kernel
theorem dX12_has_128 : decode cX12_has 128 = .ok (.iconst 1, 1) := by decide +kernel
theorem dX12_has_129 : decode cX12_has 129 = .ok (.iadd, 1) := by decide +kernel
theorem dX12_has_130 : decode cX12_has 130 = .ok (.istore_n 2, 1) := by decide +kernel
theorem dX12_has_131 : decode cX12_has 131 = .ok (.iinc 3 1, 3) := by decide +kernel
theorem dX12_has_134 : decode cX12_has 134 = .ok (.goto (-34), 3) := by decide +kernel
theorem dX12_has_137 : decode cX12_has 137 = .ok (.iload_n 2, 1) := by decide +kernel
theorem dX12_has_138 : decode cX12_has 138 = .ok (.ireturn, 1) := by decide +kernel
theorem dX12_has_139 : decode cX12_has 139 = .ok (.iconst 0, 1) := by decide +kernel
theorem dX12_has_140 : decode cX12_has 140 = .ok (.istore_n 3, 1) := by decide +kernel
theorem dX12_has_141 : decode cX12_has 141 = .ok (.iload_n 3, 1) := by decide +kernel
theorem dX12_has_142 : decode cX12_has 142 = .ok (.aload_n 0, 1) := by decide +kernel
theorem dX12_has_143 : decode cX12_has 143 = .ok (.getfield 54, 3) := by decide +kernel
theorem dX12_has_146 : decode cX12_has 146 = .ok (.aload_n 0, 1) := by decide +kernel
theorem dX12_has_147 : decode cX12_has 147 = .ok (.getfield 51, 3) := by decide +kernel
theorem dX12_has_150 : decode cX12_has 150 = .ok (.iaload, 1) := by decide +kernel
theorem dX12_has_151 : decode cX12_has 151 = .ok (.if_icmp .ge 27, 3) := by decide +kernel
theorem dX12_has_154 : decode cX12_has 154 = .ok (.iload_n 2, 1) := by decide +kernel
theorem dX12_has_155 : decode cX12_has 155 = .ok (.aload_n 0, 1) := by decide +kernel
theorem dX12_has_156 : decode cX12_has 156 = .ok (.getfield 153, 3) := by decide +kernel
theorem dX12_has_159 : decode cX12_has 159 = .ok (.iload_n 3, 1) := by decide +kernel
theorem dX12_has_160 : decode cX12_has 160 = .ok (.iaload, 1) := by decide +kernel
theorem dX12_has_161 : decode cX12_has 161 = .ok (.iconst (-1), 1) := by decide +kernel
theorem dX12_has_162 : decode cX12_has 162 = .ok (.if_icmp .ne 7, 3) := by decide +kernel
theorem dX12_has_165 : decode cX12_has 165 = .ok (.iconst 0, 1) := by decide +kernel
theorem dX12_has_166 : decode cX12_has 166 = .ok (.goto 4, 3) := by decide +kernel
theorem dX12_has_169 : decode cX12_has 169 = .ok (.iconst 1, 1) := by decide +kernel
theorem dX12_has_170 : decode cX12_has 170 = .ok (.iadd, 1) := by decide +kernel
theorem dX12_has_171 : decode cX12_has 171 = .ok (.istore_n 2, 1) := by decide +kernel
theorem dX12_has_172 : decode cX12_has 172 = .ok (.iinc 3 1, 3) := by decide +kernel
theorem dX12_has_175 : decode cX12_has 175 = .ok (.goto (-34), 3) := by decide +kernel
theorem dX12_has_178 : decode cX12_has 178 = .ok (.iload_n 2, 1) := by decide +kernel
theorem dX12_has_179 : decode cX12_has 179 = .ok (.ireturn, 1) := by decide +kernel
theorem dX12_has_180 : decode cX12_has 180 = .ok (.aload_n 0, 1) := by decide +kernel
theorem dX12_has_181 : decode cX12_has 181 = .ok (.getfield 159, 3) := by decide +kernel
theorem dX12_has_184 : decode cX12_has 184 = .ok (.iconst 0, 1) := by decide +kernel
theorem dX12_has_185 : decode cX12_has 185 = .ok (.iaload, 1) := by decide +kernel
theorem dX12_has_186 : decode cX12_has 186 = .ok (.invokestatic 450, 3) := by decide +kernel
theorem dX12_has_189 : decode cX12_has 189 = .ok (.ireturn, 1) := by decide +kernel
theorem dX12_has_190 : decode cX12_has 190 = .ok (.iconst 0, 1) := by decide +kernel
theorem dX12_has_191 : decode cX12_has 191 = .ok (.istore_n 3, 1) := by decide +kernel
theorem dX12_has_192 : decode cX12_has 192 = .ok (.iload_n 3, 1) := by decide +kernel
theorem dX12_has_193 : decode cX12_has 193 = .ok (.aload_n 0, 1) := by decide +kernel
theorem dX12_has_194 : decode cX12_has 194 = .ok (.getfield 63, 3) := by decide +kernel
theorem dX12_has_197 : decode cX12_has 197 = .ok (.aload_n 0, 1) := by decide +kernel
theorem dX12_has_198 : decode cX12_has 198 = .ok (.getfield 51, 3) := by decide +kernel
theorem dX12_has_201 : decode cX12_has 201 = .ok (.iaload, 1) := by decide +kernel
theorem dX12_has_202 : decode cX12_has 202 = .ok (.if_icmp .ge 27, 3) := by decide +kernel
theorem dX12_has_205 : decode cX12_has 205 = .ok (.iload_n 2, 1) := by decide +kernel
theorem dX12_has_206 : decode cX12_has 206 = .ok (.aload_n 0, 1) := by decide +kernel
theorem dX12_has_207 : decode cX12_has 207 = .ok (.getfield 162, 3) := by decide +kernel
theorem dX12_has_210 : decode cX12_has 210 = .ok (.iload_n 3, 1) := by decide +kernel
theorem dX12_has_211 : decode cX12_has 211 = .ok (.iaload, 1) := by decide +kernel
theorem dX12_has_212 : decode cX12_has 212 = .ok (.iconst (-1), 1) := by decide +kernel
theorem dX12_has_213 : decode cX12_has 213 = .ok (.if_icmp .ne 7, 3) := by decide +kernel
theorem dX12_has_216 : decode cX12_has 216 = .ok (.iconst 0, 1) := by decide +kernel
theorem dX12_has_217 : decode cX12_has 217 = .ok (.goto 4, 3) := by decide +kernel
theorem dX12_has_220 : decode cX12_has 220 = .ok (.iconst 1, 1) := by decide +kernel
theorem dX12_has_221 : decode cX12_has 221 = .ok (.iadd, 1) := by decide +kernel
theorem dX12_has_222 : decode cX12_has 222 = .ok (.istore_n 2, 1) := by decide +kernel
theorem dX12_has_223 : decode cX12_has 223 = .ok (.iinc 3 1, 3) := by decide +kernel
theorem dX12_has_226 : decode cX12_has 226 = .ok (.goto (-34), 3) := by decide +kernel
theorem dX12_has_229 : decode cX12_has 229 = .ok (.iload_n 2, 1) := by decide +kernel
theorem dX12_has_230 : decode cX12_has 230 = .ok (.ireturn, 1) := by decide +kernel
theorem dX12_has_231 : decode cX12_has 231 = .ok (.aload_n 0, 1) := by decide +kernel
theorem dX12_has_232 : decode cX12_has 232 = .ok (.getfield 165, 3) := by decide +kernel
theorem dX12_has_235 : decode cX12_has 235 = .ok (.iconst 0, 1) := by decide +kernel
theorem dX12_has_236 : decode cX12_has 236 = .ok (.iaload, 1) := by decide +kernel
theorem dX12_has_237 : decode cX12_has 237 = .ok (.ireturn, 1) := by decide +kernel
theorem dX12_has_238 : decode cX12_has 238 = .ok (.aload_n 0, 1) := by decide +kernel
theorem dX12_has_239 : decode cX12_has 239 = .ok (.getfield 195, 3) := by decide +kernel
theorem dX12_has_242 : decode cX12_has 242 = .ok (.ireturn, 1) := by decide +kernel
theorem dX12_has_243 : decode cX12_has 243 = .ok (.aload_n 0, 1) := by decide +kernel
theorem dX12_has_244 : decode cX12_has 244 = .ok (.getfield 174, 3) := by decide +kernel
theorem dX12_has_247 : decode cX12_has 247 = .ok (.ireturn, 1) := by decide +kernel
theorem dX12_has_248 : decode cX12_has 248 = .ok (.aload_n 0, 1) := by decide +kernel
theorem dX12_has_249 : decode cX12_has 249 = .ok (.getfield 177, 3) := by decide +kernel
theorem dX12_has_252 : decode cX12_has 252 = .ok (.l2i, 1) := by decide +kernel
theorem dX12_has_253 : decode cX12_has 253 = .ok (.ireturn, 1) := by decide +kernel
theorem dX12_has_254 : decode cX12_has 254 = .ok (.iconst (-1), 1) := by decide +kernel
theorem dX12_has_255 : decode cX12_has 255 = .ok (.ireturn, 1) := by decide +kernel
theorem dX12_letter_0 : decode cX12_letter 0 = .ok (.iload_n 1, 1) := by decide +kernel
theorem dX12_letter_1 : decode cX12_letter 1 = .ok (.ifCond .ne 11, 3) := by decide +kernel
theorem dX12_letter_4 : decode cX12_letter 4 = .ok (.aload_n 0, 1) := by decide +kernel
theorem dX12_letter_5 : decode cX12_letter 5 = .ok (.iload_n 2, 1) := by decide +kernel
theorem dX12_letter_6 : decode cX12_letter 6 = .ok (.invokevirtual 453, 3) := by decide +kernel
theorem dX12_letter_9 : decode cX12_letter 9 = .ok (.goto 21, 3) := by decide +kernel
theorem dX12_letter_12 : decode cX12_letter 12 = .ok (.iload_n 1, 1) := by decide +kernel
theorem dX12_letter_13 : decode cX12_letter 13 = .ok (.iconst 1, 1) := by decide +kernel
theorem dX12_letter_14 : decode cX12_letter 14 = .ok (.if_icmp .ne 15, 3) := by decide +kernel
theorem dX12_letter_17 : decode cX12_letter 17 = .ok (.aload_n 0, 1) := by decide +kernel
theorem dX12_letter_18 : decode cX12_letter 18 = .ok (.iload_n 2, 1) := by decide +kernel
theorem dX12_letter_19 : decode cX12_letter 19 = .ok (.invokevirtual 447, 3) := by decide +kernel
theorem dX12_letter_22 : decode cX12_letter 22 = .ok (.ifCond .eq 7, 3) := by decide +kernel
theorem dX12_letter_25 : decode cX12_letter 25 = .ok (.iconst 1, 1) := by decide +kernel
theorem dX12_letter_26 : decode cX12_letter 26 = .ok (.goto 4, 3) := by decide +kernel
theorem dX12_letter_29 : decode cX12_letter 29 = .ok (.iconst 0, 1) := by decide +kernel
theorem dX12_letter_30 : decode cX12_letter 30 = .ok (.istore 4, 2) := by decide +kernel
theorem dX12_letter_32 : decode cX12_letter 32 = .ok (.iload 4, 2) := by decide +kernel
theorem dX12_letter_34 : decode cX12_letter 34 = .ok (.ifCond .eq 12, 3) := by decide +kernel
theorem dX12_letter_37 : decode cX12_letter 37 = .ok (.iload_n 3, 1) := by decide +kernel
theorem dX12_letter_38 : decode cX12_letter 38 = .ok (.iconst 0, 1) := by decide +kernel
theorem dX12_letter_39 : decode cX12_letter 39 = .ok (.iconst 5, 1) := by decide +kernel
theorem dX12_letter_40 : decode cX12_letter 40 = .ok (.invokestatic 296, 3) := by decide +kernel
theorem dX12_letter_43 : decode cX12_letter 43 = .ok (.ifCond .ne 5, 3) := by decide +kernel
theorem dX12_letter_46 : decode cX12_letter 46 = .ok (.iconst (-1), 1) := by decide +kernel
theorem dX12_letter_47 : decode cX12_letter 47 = .ok (.ireturn, 1) := by decide +kernel
theorem dX12_letter_48 : decode cX12_letter 48 = .ok (.iload_n 1, 1) := by decide +kernel
theorem dX12_letter_49 : decode cX12_letter 49 = .ok (.ifCond .ne 20, 3) := by decide +kernel
theorem dX12_letter_52 : decode cX12_letter 52 = .ok (.aload_n 0, 1) := by decide +kernel
theorem dX12_letter_53 : decode cX12_letter 53 = .ok (.getfield 90, 3) := by decide +kernel
theorem dX12_letter_56 : decode cX12_letter 56 = .ok (.bipush 8, 2) := by decide +kernel
theorem dX12_letter_58 : decode cX12_letter 58 = .ok (.aload_n 0, 1) := by decide +kernel
theorem dX12_letter_59 : decode cX12_letter 59 = .ok (.getfield 51, 3) := by decide +kernel
theorem dX12_letter_62 : decode cX12_letter 62 = .ok (.imul, 1) := by decide +kernel
theorem dX12_letter_63 : decode cX12_letter 63 = .ok (.iload_n 2, 1) := by decide +kernel
theorem dX12_letter_64 : decode cX12_letter 64 = .ok (.iadd, 1) := by decide +kernel
theorem dX12_letter_65 : decode cX12_letter 65 = .ok (.laload, 1) := by decide +kernel
theorem dX12_letter_66 : decode cX12_letter 66 = .ok (.goto 16, 3) := by decide +kernel
theorem dX12_letter_69 : decode cX12_letter 69 = .ok (.aload_n 0, 1) := by decide +kernel
theorem dX12_letter_70 : decode cX12_letter 70 = .ok (.getfield 94, 3) := by decide +kernel
theorem dX12_letter_73 : decode cX12_letter 73 = .ok (.iconst 3, 1) := by decide +kernel
theorem dX12_letter_74 : decode cX12_letter 74 = .ok (.aload_n 0, 1) := by decide +kernel
theorem dX12_letter_75 : decode cX12_letter 75 = .ok (.getfield 51, 3) := by decide +kernel
theorem dX12_letter_78 : decode cX12_letter 78 = .ok (.imul, 1) := by decide +kernel
theorem dX12_letter_79 : decode cX12_letter 79 = .ok (.iload_n 2, 1) := by decide +kernel
theorem dX12_letter_80 : decode cX12_letter 80 = .ok (.iadd, 1) := by decide +kernel
theorem dX12_letter_81 : decode cX12_letter 81 = .ok (.laload, 1) := by decide +kernel
theorem dX12_letter_82 : decode cX12_letter 82 = .ok (.lstore 5, 2) := by decide +kernel
theorem dX12_letter_84 : decode cX12_letter 84 = .ok (.iconst 0, 1) := by decide +kernel
theorem dX12_letter_85 : decode cX12_letter 85 = .ok (.istore 7, 2) := by decide +kernel
theorem dX12_letter_87 : decode cX12_letter 87 = .ok (.lload 5, 2) := by decide +kernel
theorem dX12_letter_89 : decode cX12_letter 89 = .ok (.lstore 8, 2) := by decide +kernel
theorem dX12_letter_91 : decode cX12_letter 91 = .ok (.lload 8, 2) := by decide +kernel
theorem dX12_letter_93 : decode cX12_letter 93 = .ok (.lconst 0, 1) := by decide +kernel
theorem dX12_letter_94 : decode cX12_letter 94 = .ok (.lcmp, 1) := by decide +kernel
theorem dX12_letter_95 : decode cX12_letter 95 = .ok (.ifCond .le 16, 3) := by decide +kernel
theorem dX12_letter_98 : decode cX12_letter 98 = .ok (.iinc 7 1, 3) := by decide +kernel
theorem dX12_letter_101 : decode cX12_letter 101 = .ok (.lload 8, 2) := by decide +kernel
theorem dX12_letter_103 : decode cX12_letter 103 = .ok (.bipush 8, 2) := by decide +kernel
theorem dX12_letter_105 : decode cX12_letter 105 = .ok (.lshr, 1) := by decide +kernel
theorem dX12_letter_106 : decode cX12_letter 106 = .ok (.lstore 8, 2) := by decide +kernel
theorem dX12_letter_108 : decode cX12_letter 108 = .ok (.goto (-17), 3) := by decide +kernel
theorem dX12_letter_111 : decode cX12_letter 111 = .ok (.iload_n 3, 1) := by decide +kernel
theorem dX12_letter_112 : decode cX12_letter 112 = .ok (.iload 7, 2) := by decide +kernel
theorem dX12_letter_114 : decode cX12_letter 114 = .ok (.if_icmp .lt 7, 3) := by decide +kernel
theorem dX12_letter_117 : decode cX12_letter 117 = .ok (.iconst 0, 1) := by decide +kernel
theorem dX12_letter_118 : decode cX12_letter 118 = .ok (.goto 25, 3) := by decide +kernel
theorem dX12_letter_121 : decode cX12_letter 121 = .ok (.lload 5, 2) := by decide +kernel
theorem dX12_letter_123 : decode cX12_letter 123 = .ok (.bipush 8, 2) := by decide +kernel
