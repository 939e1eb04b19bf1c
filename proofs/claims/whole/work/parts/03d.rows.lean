theorem dX12_letter_125 : decode cX12_letter 125 = .ok (.iload 7, 2) := by decide +kernel
theorem dX12_letter_127 : decode cX12_letter 127 = .ok (.iconst 1, 1) := by decide +kernel
theorem dX12_letter_128 : decode cX12_letter 128 = .ok (.isub, 1) := by decide +kernel
theorem dX12_letter_129 : decode cX12_letter 129 = .ok (.iload_n 3, 1) := by decide +kernel
theorem dX12_letter_130 : decode cX12_letter 130 = .ok (.isub, 1) := by decide +kernel
theorem dX12_letter_131 : decode cX12_letter 131 = .ok (.imul, 1) := by decide +kernel
theorem dX12_letter_132 : decode cX12_letter 132 = .ok (.lshr, 1) := by decide +kernel
theorem dX12_letter_133 : decode cX12_letter 133 = .ok (.ldc2_w 456, 3) := by decide +kernel
theorem dX12_letter_136 : decode cX12_letter 136 = .ok (.land, 1) := by decide +kernel
theorem dX12_letter_137 : decode cX12_letter 137 = .ok (.l2i, 1) := by decide +kernel
theorem dX12_letter_138 : decode cX12_letter 138 = .ok (.bipush 97, 2) := by decide +kernel
theorem dX12_letter_140 : decode cX12_letter 140 = .ok (.isub, 1) := by decide +kernel
theorem dX12_letter_141 : decode cX12_letter 141 = .ok (.iconst 1, 1) := by decide +kernel
theorem dX12_letter_142 : decode cX12_letter 142 = .ok (.iadd, 1) := by decide +kernel
theorem dX12_letter_143 : decode cX12_letter 143 = .ok (.ireturn, 1) := by decide +kernel
theorem dX12_child_0 : decode cX12_child 0 = .ok (.aload_n 0, 1) := by decide +kernel
theorem dX12_child_1 : decode cX12_child 1 = .ok (.iload_n 1, 1) := by decide +kernel
theorem dX12_child_2 : decode cX12_child 2 = .ok (.invokevirtual 453, 3) := by decide +kernel
theorem dX12_child_5 : decode cX12_child 5 = .ok (.ifCond .ne 5, 3) := by decide +kernel
theorem dX12_child_8 : decode cX12_child 8 = .ok (.iconst (-1), 1) := by decide +kernel
theorem dX12_child_9 : decode cX12_child 9 = .ok (.ireturn, 1) := by decide +kernel
theorem dX12_child_10 : decode cX12_child 10 = .ok (.iload_n 2, 1) := by decide +kernel
theorem dX12_child_11 : decode cX12_child 11 = .ok (.tableswitch 127 0 6 #[41, 56, 71, 78, 85, 101, 108], 41) := by decide +kernel
theorem dX12_child_52 : decode cX12_child 52 = .ok (.aload_n 0, 1) := by decide +kernel
theorem dX12_child_53 : decode cX12_child 53 = .ok (.getfield 57, 3) := by decide +kernel
theorem dX12_child_56 : decode cX12_child 56 = .ok (.bipush 8, 2) := by decide +kernel
theorem dX12_child_58 : decode cX12_child 58 = .ok (.aload_n 0, 1) := by decide +kernel
theorem dX12_child_59 : decode cX12_child 59 = .ok (.getfield 51, 3) := by decide +kernel
theorem dX12_child_62 : decode cX12_child 62 = .ok (.imul, 1) := by decide +kernel
theorem dX12_child_63 : decode cX12_child 63 = .ok (.iload_n 1, 1) := by decide +kernel
theorem dX12_child_64 : decode cX12_child 64 = .ok (.iadd, 1) := by decide +kernel
theorem dX12_child_65 : decode cX12_child 65 = .ok (.iaload, 1) := by decide +kernel
theorem dX12_child_66 : decode cX12_child 66 = .ok (.ireturn, 1) := by decide +kernel
theorem dX12_child_67 : decode cX12_child 67 = .ok (.aload_n 0, 1) := by decide +kernel
theorem dX12_child_68 : decode cX12_child 68 = .ok (.getfield 60, 3) := by decide +kernel
theorem dX12_child_71 : decode cX12_child 71 = .ok (.bipush 8, 2) := by decide +kernel
theorem dX12_child_73 : decode cX12_child 73 = .ok (.aload_n 0, 1) := by decide +kernel
theorem dX12_child_74 : decode cX12_child 74 = .ok (.getfield 51, 3) := by decide +kernel
theorem dX12_child_77 : decode cX12_child 77 = .ok (.imul, 1) := by decide +kernel
theorem dX12_child_78 : decode cX12_child 78 = .ok (.iload_n 1, 1) := by decide +kernel
theorem dX12_child_79 : decode cX12_child 79 = .ok (.iadd, 1) := by decide +kernel
theorem dX12_child_80 : decode cX12_child 80 = .ok (.iaload, 1) := by decide +kernel
theorem dX12_child_81 : decode cX12_child 81 = .ok (.ireturn, 1) := by decide +kernel
theorem dX12_child_82 : decode cX12_child 82 = .ok (.aload_n 0, 1) := by decide +kernel
theorem dX12_child_83 : decode cX12_child 83 = .ok (.getfield 147, 3) := by decide +kernel
theorem dX12_child_86 : decode cX12_child 86 = .ok (.iload_n 1, 1) := by decide +kernel
theorem dX12_child_87 : decode cX12_child 87 = .ok (.iaload, 1) := by decide +kernel
theorem dX12_child_88 : decode cX12_child 88 = .ok (.ireturn, 1) := by decide +kernel
theorem dX12_child_89 : decode cX12_child 89 = .ok (.aload_n 0, 1) := by decide +kernel
theorem dX12_child_90 : decode cX12_child 90 = .ok (.getfield 150, 3) := by decide +kernel
theorem dX12_child_93 : decode cX12_child 93 = .ok (.iload_n 1, 1) := by decide +kernel
theorem dX12_child_94 : decode cX12_child 94 = .ok (.iaload, 1) := by decide +kernel
theorem dX12_child_95 : decode cX12_child 95 = .ok (.ireturn, 1) := by decide +kernel
theorem dX12_child_96 : decode cX12_child 96 = .ok (.aload_n 0, 1) := by decide +kernel
theorem dX12_child_97 : decode cX12_child 97 = .ok (.getfield 153, 3) := by decide +kernel
theorem dX12_child_100 : decode cX12_child 100 = .ok (.iload_n 1, 1) := by decide +kernel
theorem dX12_child_101 : decode cX12_child 101 = .ok (.iaload, 1) := by decide +kernel
theorem dX12_child_102 : decode cX12_child 102 = .ok (.iconst (-1), 1) := by decide +kernel
theorem dX12_child_103 : decode cX12_child 103 = .ok (.if_icmp .ne 7, 3) := by decide +kernel
theorem dX12_child_106 : decode cX12_child 106 = .ok (.iconst 0, 1) := by decide +kernel
theorem dX12_child_107 : decode cX12_child 107 = .ok (.goto 4, 3) := by decide +kernel
theorem dX12_child_110 : decode cX12_child 110 = .ok (.iconst 1, 1) := by decide +kernel
theorem dX12_child_111 : decode cX12_child 111 = .ok (.ireturn, 1) := by decide +kernel
theorem dX12_child_112 : decode cX12_child 112 = .ok (.aload_n 0, 1) := by decide +kernel
theorem dX12_child_113 : decode cX12_child 113 = .ok (.getfield 153, 3) := by decide +kernel
theorem dX12_child_116 : decode cX12_child 116 = .ok (.iload_n 1, 1) := by decide +kernel
theorem dX12_child_117 : decode cX12_child 117 = .ok (.iaload, 1) := by decide +kernel
theorem dX12_child_118 : decode cX12_child 118 = .ok (.ireturn, 1) := by decide +kernel
theorem dX12_child_119 : decode cX12_child 119 = .ok (.aload_n 0, 1) := by decide +kernel
theorem dX12_child_120 : decode cX12_child 120 = .ok (.getfield 159, 3) := by decide +kernel
theorem dX12_child_123 : decode cX12_child 123 = .ok (.iconst 0, 1) := by decide +kernel
theorem dX12_child_124 : decode cX12_child 124 = .ok (.iaload, 1) := by decide +kernel
theorem dX12_child_125 : decode cX12_child 125 = .ok (.iload_n 1, 1) := by decide +kernel
theorem dX12_child_126 : decode cX12_child 126 = .ok (.invokestatic 458, 3) := by decide +kernel
theorem dX12_child_129 : decode cX12_child 129 = .ok (.ifCond .eq 7, 3) := by decide +kernel
theorem dX12_child_132 : decode cX12_child 132 = .ok (.iconst 1, 1) := by decide +kernel
theorem dX12_child_133 : decode cX12_child 133 = .ok (.goto 4, 3) := by decide +kernel
theorem dX12_child_136 : decode cX12_child 136 = .ok (.iconst 0, 1) := by decide +kernel
theorem dX12_child_137 : decode cX12_child 137 = .ok (.ireturn, 1) := by decide +kernel
theorem dX12_child_138 : decode cX12_child 138 = .ok (.iconst (-1), 1) := by decide +kernel
theorem dX12_child_139 : decode cX12_child 139 = .ok (.ireturn, 1) := by decide +kernel
theorem dX12_kiln_0 : decode cX12_kiln 0 = .ok (.aload_n 0, 1) := by decide +kernel
theorem dX12_kiln_1 : decode cX12_kiln 1 = .ok (.iload_n 1, 1) := by decide +kernel
theorem dX12_kiln_2 : decode cX12_kiln 2 = .ok (.invokevirtual 447, 3) := by decide +kernel
theorem dX12_kiln_5 : decode cX12_kiln 5 = .ok (.ifCond .ne 5, 3) := by decide +kernel
theorem dX12_kiln_8 : decode cX12_kiln 8 = .ok (.iconst (-1), 1) := by decide +kernel
theorem dX12_kiln_9 : decode cX12_kiln 9 = .ok (.ireturn, 1) := by decide +kernel
theorem dX12_kiln_10 : decode cX12_kiln 10 = .ok (.iload_n 2, 1) := by decide +kernel
theorem dX12_kiln_11 : decode cX12_kiln 11 = .ok (.tableswitch 78 0 3 #[29, 43, 50, 57], 29) := by decide +kernel
theorem dX12_kiln_40 : decode cX12_kiln 40 = .ok (.aload_n 0, 1) := by decide +kernel
theorem dX12_kiln_41 : decode cX12_kiln 41 = .ok (.getfield 66, 3) := by decide +kernel
theorem dX12_kiln_44 : decode cX12_kiln 44 = .ok (.iconst 3, 1) := by decide +kernel
theorem dX12_kiln_45 : decode cX12_kiln 45 = .ok (.aload_n 0, 1) := by decide +kernel
theorem dX12_kiln_46 : decode cX12_kiln 46 = .ok (.getfield 51, 3) := by decide +kernel
theorem dX12_kiln_49 : decode cX12_kiln 49 = .ok (.imul, 1) := by decide +kernel
theorem dX12_kiln_50 : decode cX12_kiln 50 = .ok (.iload_n 1, 1) := by decide +kernel
theorem dX12_kiln_51 : decode cX12_kiln 51 = .ok (.iadd, 1) := by decide +kernel
theorem dX12_kiln_52 : decode cX12_kiln 52 = .ok (.iaload, 1) := by decide +kernel
theorem dX12_kiln_53 : decode cX12_kiln 53 = .ok (.ireturn, 1) := by decide +kernel
theorem dX12_kiln_54 : decode cX12_kiln 54 = .ok (.aload_n 0, 1) := by decide +kernel
theorem dX12_kiln_55 : decode cX12_kiln 55 = .ok (.iconst 0, 1) := by decide +kernel
theorem dX12_kiln_56 : decode cX12_kiln 56 = .ok (.iload_n 1, 1) := by decide +kernel
theorem dX12_kiln_57 : decode cX12_kiln 57 = .ok (.invokevirtual 422, 3) := by decide +kernel
theorem dX12_kiln_60 : decode cX12_kiln 60 = .ok (.ireturn, 1) := by decide +kernel
theorem dX12_kiln_61 : decode cX12_kiln 61 = .ok (.aload_n 0, 1) := by decide +kernel
theorem dX12_kiln_62 : decode cX12_kiln 62 = .ok (.getfield 162, 3) := by decide +kernel
theorem dX12_kiln_65 : decode cX12_kiln 65 = .ok (.iload_n 1, 1) := by decide +kernel
theorem dX12_kiln_66 : decode cX12_kiln 66 = .ok (.iaload, 1) := by decide +kernel
theorem dX12_kiln_67 : decode cX12_kiln 67 = .ok (.ireturn, 1) := by decide +kernel
theorem dX12_kiln_68 : decode cX12_kiln 68 = .ok (.aload_n 0, 1) := by decide +kernel
theorem dX12_kiln_69 : decode cX12_kiln 69 = .ok (.getfield 162, 3) := by decide +kernel
theorem dX12_kiln_72 : decode cX12_kiln 72 = .ok (.iload_n 1, 1) := by decide +kernel
theorem dX12_kiln_73 : decode cX12_kiln 73 = .ok (.iaload, 1) := by decide +kernel
theorem dX12_kiln_74 : decode cX12_kiln 74 = .ok (.iconst (-1), 1) := by decide +kernel
theorem dX12_kiln_75 : decode cX12_kiln 75 = .ok (.if_icmp .ne 7, 3) := by decide +kernel
theorem dX12_kiln_78 : decode cX12_kiln 78 = .ok (.iconst (-1), 1) := by decide +kernel
theorem dX12_kiln_79 : decode cX12_kiln 79 = .ok (.goto 9, 3) := by decide +kernel
theorem dX12_kiln_82 : decode cX12_kiln 82 = .ok (.aload_n 0, 1) := by decide +kernel
theorem dX12_kiln_83 : decode cX12_kiln 83 = .ok (.iconst 0, 1) := by decide +kernel
theorem dX12_kiln_84 : decode cX12_kiln 84 = .ok (.iload_n 1, 1) := by decide +kernel
theorem dX12_kiln_85 : decode cX12_kiln 85 = .ok (.invokevirtual 440, 3) := by decide +kernel
theorem dX12_kiln_88 : decode cX12_kiln 88 = .ok (.ireturn, 1) := by decide +kernel
theorem dX12_kiln_89 : decode cX12_kiln 89 = .ok (.iconst (-1), 1) := by decide +kernel
theorem dX12_kiln_90 : decode cX12_kiln 90 = .ok (.ireturn, 1) := by decide +kernel
theorem dX12_place_0 : decode cX12_place 0 = .ok (.aload_n 0, 1) := by decide +kernel
theorem dX12_place_1 : decode cX12_place 1 = .ok (.iload_n 1, 1) := by decide +kernel
theorem dX12_place_2 : decode cX12_place 2 = .ok (.iload_n 2, 1) := by decide +kernel
theorem dX12_place_3 : decode cX12_place 3 = .ok (.invokevirtual 462, 3) := by decide +kernel
theorem dX12_place_6 : decode cX12_place 6 = .ok (.ifCond .eq 13, 3) := by decide +kernel
theorem dX12_place_9 : decode cX12_place 9 = .ok (.aload_n 0, 1) := by decide +kernel
theorem dX12_place_10 : decode cX12_place 10 = .ok (.iconst 0, 1) := by decide +kernel
theorem dX12_place_11 : decode cX12_place 11 = .ok (.iload_n 1, 1) := by decide +kernel
theorem dX12_place_12 : decode cX12_place 12 = .ok (.iload_n 2, 1) := by decide +kernel
theorem dX12_place_13 : decode cX12_place 13 = .ok (.invokevirtual 425, 3) := by decide +kernel
theorem dX12_place_16 : decode cX12_place 16 = .ok (.goto 4, 3) := by decide +kernel
theorem dX12_place_19 : decode cX12_place 19 = .ok (.iconst (-1), 1) := by decide +kernel
theorem dX12_place_20 : decode cX12_place 20 = .ok (.ireturn, 1) := by decide +kernel
theorem dX12_isRing_0 : decode cX12_isRing 0 = .ok (.aload_n 0, 1) := by decide +kernel
theorem dX12_isRing_1 : decode cX12_isRing 1 = .ok (.iload_n 1, 1) := by decide +kernel
theorem dX12_isRing_2 : decode cX12_isRing 2 = .ok (.invokevirtual 453, 3) := by decide +kernel
theorem dX12_isRing_5 : decode cX12_isRing 5 = .ok (.ifCond .eq 26, 3) := by decide +kernel
theorem dX12_isRing_8 : decode cX12_isRing 8 = .ok (.iload_n 2, 1) := by decide +kernel
theorem dX12_isRing_9 : decode cX12_isRing 9 = .ok (.iconst 0, 1) := by decide +kernel
theorem dX12_isRing_10 : decode cX12_isRing 10 = .ok (.bipush 20, 2) := by decide +kernel
theorem dX12_isRing_12 : decode cX12_isRing 12 = .ok (.invokestatic 296, 3) := by decide +kernel
theorem dX12_isRing_15 : decode cX12_isRing 15 = .ok (.ifCond .eq 16, 3) := by decide +kernel
theorem dX12_isRing_18 : decode cX12_isRing 18 = .ok (.iload_n 3, 1) := by decide +kernel
theorem dX12_isRing_19 : decode cX12_isRing 19 = .ok (.iconst 0, 1) := by decide +kernel
theorem dX12_isRing_20 : decode cX12_isRing 20 = .ok (.iconst 5, 1) := by decide +kernel
theorem dX12_isRing_21 : decode cX12_isRing 21 = .ok (.invokestatic 296, 3) := by decide +kernel
theorem dX12_isRing_24 : decode cX12_isRing 24 = .ok (.ifCond .eq 7, 3) := by decide +kernel
theorem dX12_isRing_27 : decode cX12_isRing 27 = .ok (.iconst 1, 1) := by decide +kernel
theorem dX12_isRing_28 : decode cX12_isRing 28 = .ok (.goto 4, 3) := by decide +kernel
theorem dX12_isRing_31 : decode cX12_isRing 31 = .ok (.iconst 0, 1) := by decide +kernel
theorem dX12_isRing_32 : decode cX12_isRing 32 = .ok (.ireturn, 1) := by decide +kernel
theorem dX12_rings_0 : decode cX12_rings 0 = .ok (.aload_n 0, 1) := by decide +kernel
theorem dX12_rings_1 : decode cX12_rings 1 = .ok (.iload_n 1, 1) := by decide +kernel
theorem dX12_rings_2 : decode cX12_rings 2 = .ok (.iload_n 2, 1) := by decide +kernel
theorem dX12_rings_3 : decode cX12_rings 3 = .ok (.iload_n 3, 1) := by decide +kernel
theorem dX12_rings_4 : decode cX12_rings 4 = .ok (.invokevirtual 465, 3) := by decide +kernel
theorem dX12_rings_7 : decode cX12_rings 7 = .ok (.ifCond .eq 14, 3) := by decide +kernel
theorem dX12_rings_10 : decode cX12_rings 10 = .ok (.aload_n 0, 1) := by decide +kernel
theorem dX12_rings_11 : decode cX12_rings 11 = .ok (.iconst 0, 1) := by decide +kernel
theorem dX12_rings_12 : decode cX12_rings 12 = .ok (.iload_n 1, 1) := by decide +kernel
theorem dX12_rings_13 : decode cX12_rings 13 = .ok (.iload_n 2, 1) := by decide +kernel
theorem dX12_rings_14 : decode cX12_rings 14 = .ok (.iload_n 3, 1) := by decide +kernel
theorem dX12_rings_15 : decode cX12_rings 15 = .ok (.invokevirtual 418, 3) := by decide +kernel
theorem dX12_rings_18 : decode cX12_rings 18 = .ok (.goto 4, 3) := by decide +kernel
theorem dX12_rings_21 : decode cX12_rings 21 = .ok (.iconst (-1), 1) := by decide +kernel
theorem dX12_rings_22 : decode cX12_rings 22 = .ok (.ireturn, 1) := by decide +kernel
theorem dX12_cracks_0 : decode cX12_cracks 0 = .ok (.aload_n 0, 1) := by decide +kernel
theorem dX12_cracks_1 : decode cX12_cracks 1 = .ok (.iload_n 1, 1) := by decide +kernel
theorem dX12_cracks_2 : decode cX12_cracks 2 = .ok (.iload_n 2, 1) := by decide +kernel
theorem dX12_cracks_3 : decode cX12_cracks 3 = .ok (.iload_n 3, 1) := by decide +kernel
theorem dX12_cracks_4 : decode cX12_cracks 4 = .ok (.invokevirtual 465, 3) := by decide +kernel
theorem dX12_cracks_7 : decode cX12_cracks 7 = .ok (.ifCond .eq 22, 3) := by decide +kernel
theorem dX12_cracks_10 : decode cX12_cracks 10 = .ok (.aload_n 0, 1) := by decide +kernel
theorem dX12_cracks_11 : decode cX12_cracks 11 = .ok (.iconst 0, 1) := by decide +kernel
theorem dX12_cracks_12 : decode cX12_cracks 12 = .ok (.iload_n 1, 1) := by decide +kernel
theorem dX12_cracks_13 : decode cX12_cracks 13 = .ok (.iload_n 2, 1) := by decide +kernel
theorem dX12_cracks_14 : decode cX12_cracks 14 = .ok (.iload_n 3, 1) := by decide +kernel
theorem dX12_cracks_15 : decode cX12_cracks 15 = .ok (.invokevirtual 429, 3) := by decide +kernel
theorem dX12_cracks_18 : decode cX12_cracks 18 = .ok (.ifCond .eq 7, 3) := by decide +kernel
theorem dX12_cracks_21 : decode cX12_cracks 21 = .ok (.iconst 1, 1) := by decide +kernel
theorem dX12_cracks_22 : decode cX12_cracks 22 = .ok (.goto 8, 3) := by decide +kernel
theorem dX12_cracks_25 : decode cX12_cracks 25 = .ok (.iconst 0, 1) := by decide +kernel
theorem dX12_cracks_26 : decode cX12_cracks 26 = .ok (.goto 4, 3) := by decide +kernel
theorem dX12_cracks_29 : decode cX12_cracks 29 = .ok (.iconst (-1), 1) := by decide +kernel
theorem dX12_cracks_30 : decode cX12_cracks 30 = .ok (.ireturn, 1) := by decide +kernel
theorem dX12_heats_0 : decode cX12_heats 0 = .ok (.aload_n 0, 1) := by decide +kernel
theorem dX12_heats_1 : decode cX12_heats 1 = .ok (.iload_n 1, 1) := by decide +kernel
theorem dX12_heats_2 : decode cX12_heats 2 = .ok (.iconst 0, 1) := by decide +kernel
theorem dX12_heats_3 : decode cX12_heats 3 = .ok (.iload_n 2, 1) := by decide +kernel
theorem dX12_heats_4 : decode cX12_heats 4 = .ok (.invokevirtual 465, 3) := by decide +kernel
theorem dX12_heats_7 : decode cX12_heats 7 = .ok (.ifCond .ne 5, 3) := by decide +kernel
theorem dX12_heats_10 : decode cX12_heats 10 = .ok (.iconst (-1), 1) := by decide +kernel
theorem dX12_heats_11 : decode cX12_heats 11 = .ok (.ireturn, 1) := by decide +kernel
theorem dX12_heats_12 : decode cX12_heats 12 = .ok (.iconst 0, 1) := by decide +kernel
theorem dX12_heats_13 : decode cX12_heats 13 = .ok (.istore 5, 2) := by decide +kernel
theorem dX12_heats_15 : decode cX12_heats 15 = .ok (.iconst 0, 1) := by decide +kernel
theorem dX12_heats_16 : decode cX12_heats 16 = .ok (.istore 6, 2) := by decide +kernel
theorem dX12_heats_18 : decode cX12_heats 18 = .ok (.iload 6, 2) := by decide +kernel
theorem dX12_heats_20 : decode cX12_heats 20 = .ok (.bipush 20, 2) := by decide +kernel
theorem dX12_heats_22 : decode cX12_heats 22 = .ok (.if_icmp .gt 52, 3) := by decide +kernel
theorem dX12_heats_25 : decode cX12_heats 25 = .ok (.iload 5, 2) := by decide +kernel
theorem dX12_heats_27 : decode cX12_heats 27 = .ok (.aload_n 0, 1) := by decide +kernel
theorem dX12_heats_28 : decode cX12_heats 28 = .ok (.iconst 0, 1) := by decide +kernel
theorem dX12_heats_29 : decode cX12_heats 29 = .ok (.iload_n 1, 1) := by decide +kernel
theorem dX12_heats_30 : decode cX12_heats 30 = .ok (.iload 6, 2) := by decide +kernel
theorem dX12_heats_32 : decode cX12_heats 32 = .ok (.iload_n 2, 1) := by decide +kernel
theorem dX12_heats_33 : decode cX12_heats 33 = .ok (.invokevirtual 418, 3) := by decide +kernel
theorem dX12_heats_36 : decode cX12_heats 36 = .ok (.iload_n 3, 1) := by decide +kernel
theorem dX12_heats_37 : decode cX12_heats 37 = .ok (.iload 4, 2) := by decide +kernel
theorem dX12_heats_39 : decode cX12_heats 39 = .ok (.invokestatic 296, 3) := by decide +kernel
theorem dX12_heats_42 : decode cX12_heats 42 = .ok (.ifCond .eq 22, 3) := by decide +kernel
theorem dX12_heats_45 : decode cX12_heats 45 = .ok (.aload_n 0, 1) := by decide +kernel
theorem dX12_heats_46 : decode cX12_heats 46 = .ok (.iconst 0, 1) := by decide +kernel
theorem dX12_heats_47 : decode cX12_heats 47 = .ok (.iload_n 1, 1) := by decide +kernel
theorem dX12_heats_48 : decode cX12_heats 48 = .ok (.iload 6, 2) := by decide +kernel
theorem dX12_heats_50 : decode cX12_heats 50 = .ok (.iload_n 2, 1) := by decide +kernel
theorem dX12_heats_51 : decode cX12_heats 51 = .ok (.invokevirtual 429, 3) := by decide +kernel
theorem dX12_heats_54 : decode cX12_heats 54 = .ok (.ifCond .ne 10, 3) := by decide +kernel
theorem dX12_heats_57 : decode cX12_heats 57 = .ok (.iconst 1, 1) := by decide +kernel
theorem dX12_heats_58 : decode cX12_heats 58 = .ok (.iload 6, 2) := by decide +kernel
theorem dX12_heats_60 : decode cX12_heats 60 = .ok (.ishl, 1) := by decide +kernel
theorem dX12_heats_61 : decode cX12_heats 61 = .ok (.goto 4, 3) := by decide +kernel
theorem dX12_heats_64 : decode cX12_heats 64 = .ok (.iconst 0, 1) := by decide +kernel
theorem dX12_heats_65 : decode cX12_heats 65 = .ok (.ior, 1) := by decide +kernel
theorem dX12_heats_66 : decode cX12_heats 66 = .ok (.istore 5, 2) := by decide +kernel
theorem dX12_heats_68 : decode cX12_heats 68 = .ok (.iinc 6 1, 3) := by decide +kernel
theorem dX12_heats_71 : decode cX12_heats 71 = .ok (.goto (-53), 3) := by decide +kernel
theorem dX12_heats_74 : decode cX12_heats 74 = .ok (.iload 5, 2) := by decide +kernel
theorem dX12_heats_76 : decode cX12_heats 76 = .ok (.ireturn, 1) := by decide +kernel
theorem dX12_sumOf_0 : decode cX12_sumOf 0 = .ok (.iconst 0, 1) := by decide +kernel
theorem dX12_sumOf_1 : decode cX12_sumOf 1 = .ok (.istore_n 3, 1) := by decide +kernel
theorem dX12_sumOf_2 : decode cX12_sumOf 2 = .ok (.aload_n 0, 1) := by decide +kernel
theorem dX12_sumOf_3 : decode cX12_sumOf 3 = .ok (.getfield 189, 3) := by decide +kernel
theorem dX12_sumOf_6 : decode cX12_sumOf 6 = .ok (.iload_n 1, 1) := by decide +kernel
theorem dX12_sumOf_7 : decode cX12_sumOf 7 = .ok (.iconst (-1), 1) := by decide +kernel
theorem dX12_sumOf_8 : decode cX12_sumOf 8 = .ok (.iastore, 1) := by decide +kernel
theorem dX12_sumOf_9 : decode cX12_sumOf 9 = .ok (.iconst 0, 1) := by decide +kernel
theorem dX12_sumOf_10 : decode cX12_sumOf 10 = .ok (.istore 4, 2) := by decide +kernel
theorem dX12_sumOf_12 : decode cX12_sumOf 12 = .ok (.iload 4, 2) := by decide +kernel
theorem dX12_sumOf_14 : decode cX12_sumOf 14 = .ok (.iload_n 1, 1) := by decide +kernel
theorem dX12_sumOf_15 : decode cX12_sumOf 15 = .ok (.if_icmp .ge 103, 3) := by decide +kernel
theorem dX12_sumOf_18 : decode cX12_sumOf 18 = .ok (.aload_n 0, 1) := by decide +kernel
theorem dX12_sumOf_19 : decode cX12_sumOf 19 = .ok (.getfield 189, 3) := by decide +kernel
theorem dX12_sumOf_22 : decode cX12_sumOf 22 = .ok (.iload 4, 2) := by decide +kernel
theorem dX12_sumOf_24 : decode cX12_sumOf 24 = .ok (.iaload, 1) := by decide +kernel
theorem dX12_sumOf_25 : decode cX12_sumOf 25 = .ok (.iconst (-1), 1) := by decide +kernel
theorem dX12_sumOf_26 : decode cX12_sumOf 26 = .ok (.if_icmp .ne 6, 3) := by decide +kernel
theorem dX12_sumOf_29 : decode cX12_sumOf 29 = .ok (.goto 83, 3) := by decide +kernel
theorem dX12_sumOf_32 : decode cX12_sumOf 32 = .ok (.aload_n 0, 1) := by decide +kernel
theorem dX12_sumOf_33 : decode cX12_sumOf 33 = .ok (.iconst 0, 1) := by decide +kernel
theorem dX12_sumOf_34 : decode cX12_sumOf 34 = .ok (.aload_n 0, 1) := by decide +kernel
theorem dX12_sumOf_35 : decode cX12_sumOf 35 = .ok (.getfield 189, 3) := by decide +kernel
theorem dX12_sumOf_38 : decode cX12_sumOf 38 = .ok (.iload 4, 2) := by decide +kernel
theorem dX12_sumOf_40 : decode cX12_sumOf 40 = .ok (.iaload, 1) := by decide +kernel
theorem dX12_sumOf_41 : decode cX12_sumOf 41 = .ok (.iload_n 2, 1) := by decide +kernel
theorem dX12_sumOf_42 : decode cX12_sumOf 42 = .ok (.iload 4, 2) := by decide +kernel
theorem dX12_sumOf_44 : decode cX12_sumOf 44 = .ok (.invokevirtual 429, 3) := by decide +kernel
theorem dX12_sumOf_47 : decode cX12_sumOf 47 = .ok (.ifCond .eq 5, 3) := by decide +kernel
theorem dX12_sumOf_50 : decode cX12_sumOf 50 = .ok (.iconst (-1), 1) := by decide +kernel
theorem dX12_sumOf_51 : decode cX12_sumOf 51 = .ok (.ireturn, 1) := by decide +kernel
theorem dX12_sumOf_52 : decode cX12_sumOf 52 = .ok (.aload_n 0, 1) := by decide +kernel
theorem dX12_sumOf_53 : decode cX12_sumOf 53 = .ok (.getfield 189, 3) := by decide +kernel
theorem dX12_sumOf_56 : decode cX12_sumOf 56 = .ok (.iload 4, 2) := by decide +kernel
theorem dX12_sumOf_58 : decode cX12_sumOf 58 = .ok (.iconst 1, 1) := by decide +kernel
theorem dX12_sumOf_59 : decode cX12_sumOf 59 = .ok (.iadd, 1) := by decide +kernel
theorem dX12_sumOf_60 : decode cX12_sumOf 60 = .ok (.iaload, 1) := by decide +kernel
theorem dX12_sumOf_61 : decode cX12_sumOf 61 = .ok (.iconst (-1), 1) := by decide +kernel
theorem dX12_sumOf_62 : decode cX12_sumOf 62 = .ok (.if_icmp .eq 32, 3) := by decide +kernel
theorem dX12_sumOf_65 : decode cX12_sumOf 65 = .ok (.aload_n 0, 1) := by decide +kernel
theorem dX12_sumOf_66 : decode cX12_sumOf 66 = .ok (.iconst 0, 1) := by decide +kernel
theorem dX12_sumOf_67 : decode cX12_sumOf 67 = .ok (.aload_n 0, 1) := by decide +kernel
theorem dX12_sumOf_68 : decode cX12_sumOf 68 = .ok (.getfield 189, 3) := by decide +kernel
theorem dX12_sumOf_71 : decode cX12_sumOf 71 = .ok (.iload 4, 2) := by decide +kernel
theorem dX12_sumOf_73 : decode cX12_sumOf 73 = .ok (.iaload, 1) := by decide +kernel
theorem dX12_sumOf_74 : decode cX12_sumOf 74 = .ok (.aload_n 0, 1) := by decide +kernel
theorem dX12_sumOf_75 : decode cX12_sumOf 75 = .ok (.getfield 189, 3) := by decide +kernel
theorem dX12_sumOf_78 : decode cX12_sumOf 78 = .ok (.iload 4, 2) := by decide +kernel
theorem dX12_sumOf_80 : decode cX12_sumOf 80 = .ok (.iconst 1, 1) := by decide +kernel
theorem dX12_sumOf_81 : decode cX12_sumOf 81 = .ok (.iadd, 1) := by decide +kernel
theorem dX12_sumOf_82 : decode cX12_sumOf 82 = .ok (.iaload, 1) := by decide +kernel
theorem dX12_sumOf_83 : decode cX12_sumOf 83 = .ok (.iload_n 2, 1) := by decide +kernel
theorem dX12_sumOf_84 : decode cX12_sumOf 84 = .ok (.iload 4, 2) := by decide +kernel
theorem dX12_sumOf_86 : decode cX12_sumOf 86 = .ok (.invokevirtual 433, 3) := by decide +kernel
theorem dX12_sumOf_89 : decode cX12_sumOf 89 = .ok (.ifCond .eq 5, 3) := by decide +kernel
theorem dX12_sumOf_92 : decode cX12_sumOf 92 = .ok (.iconst (-1), 1) := by decide +kernel
theorem dX12_sumOf_93 : decode cX12_sumOf 93 = .ok (.ireturn, 1) := by decide +kernel
theorem dX12_sumOf_94 : decode cX12_sumOf 94 = .ok (.iload_n 3, 1) := by decide +kernel
theorem dX12_sumOf_95 : decode cX12_sumOf 95 = .ok (.aload_n 0, 1) := by decide +kernel
theorem dX12_sumOf_96 : decode cX12_sumOf 96 = .ok (.iconst 0, 1) := by decide +kernel
theorem dX12_sumOf_97 : decode cX12_sumOf 97 = .ok (.aload_n 0, 1) := by decide +kernel
theorem dX12_sumOf_98 : decode cX12_sumOf 98 = .ok (.getfield 189, 3) := by decide +kernel
theorem dX12_sumOf_101 : decode cX12_sumOf 101 = .ok (.iload 4, 2) := by decide +kernel
theorem dX12_sumOf_103 : decode cX12_sumOf 103 = .ok (.iaload, 1) := by decide +kernel
theorem dX12_sumOf_104 : decode cX12_sumOf 104 = .ok (.iload_n 2, 1) := by decide +kernel
theorem dX12_sumOf_105 : decode cX12_sumOf 105 = .ok (.iload 4, 2) := by decide +kernel
theorem dX12_sumOf_107 : decode cX12_sumOf 107 = .ok (.invokevirtual 418, 3) := by decide +kernel
theorem dX12_sumOf_110 : decode cX12_sumOf 110 = .ok (.iadd, 1) := by decide +kernel
theorem dX12_sumOf_111 : decode cX12_sumOf 111 = .ok (.istore_n 3, 1) := by decide +kernel
theorem dX12_sumOf_112 : decode cX12_sumOf 112 = .ok (.iinc 4 1, 3) := by decide +kernel
theorem dX12_sumOf_115 : decode cX12_sumOf 115 = .ok (.goto (-103), 3) := by decide +kernel
theorem dX12_sumOf_118 : decode cX12_sumOf 118 = .ok (.iload_n 3, 1) := by decide +kernel
theorem dX12_sumOf_119 : decode cX12_sumOf 119 = .ok (.ireturn, 1) := by decide +kernel
theorem dX12_safe_0 : decode cX12_safe 0 = .ok (.aload_n 0, 1) := by decide +kernel
theorem dX12_safe_1 : decode cX12_safe 1 = .ok (.iload_n 1, 1) := by decide +kernel
theorem dX12_safe_2 : decode cX12_safe 2 = .ok (.invokevirtual 447, 3) := by decide +kernel
theorem dX12_safe_5 : decode cX12_safe 5 = .ok (.ifCond .eq 12, 3) := by decide +kernel
theorem dX12_safe_8 : decode cX12_safe 8 = .ok (.aload_n 0, 1) := by decide +kernel
theorem dX12_safe_9 : decode cX12_safe 9 = .ok (.iconst 0, 1) := by decide +kernel
theorem dX12_safe_10 : decode cX12_safe 10 = .ok (.iload_n 1, 1) := by decide +kernel
theorem dX12_safe_11 : decode cX12_safe 11 = .ok (.invokevirtual 422, 3) := by decide +kernel
theorem dX12_safe_14 : decode cX12_safe 14 = .ok (.ifCond .ne 5, 3) := by decide +kernel
theorem dX12_safe_17 : decode cX12_safe 17 = .ok (.iconst (-1), 1) := by decide +kernel
theorem dX12_safe_18 : decode cX12_safe 18 = .ok (.ireturn, 1) := by decide +kernel
theorem dX12_safe_19 : decode cX12_safe 19 = .ok (.aload_n 0, 1) := by decide +kernel
theorem dX12_safe_20 : decode cX12_safe 20 = .ok (.getfield 66, 3) := by decide +kernel
theorem dX12_safe_23 : decode cX12_safe 23 = .ok (.iconst 3, 1) := by decide +kernel
theorem dX12_safe_24 : decode cX12_safe 24 = .ok (.aload_n 0, 1) := by decide +kernel
theorem dX12_safe_25 : decode cX12_safe 25 = .ok (.getfield 51, 3) := by decide +kernel
theorem dX12_safe_28 : decode cX12_safe 28 = .ok (.imul, 1) := by decide +kernel
theorem dX12_safe_29 : decode cX12_safe 29 = .ok (.iload_n 1, 1) := by decide +kernel
theorem dX12_safe_30 : decode cX12_safe 30 = .ok (.iadd, 1) := by decide +kernel
theorem dX12_safe_31 : decode cX12_safe 31 = .ok (.iaload, 1) := by decide +kernel
theorem dX12_safe_32 : decode cX12_safe 32 = .ok (.istore_n 2, 1) := by decide +kernel
theorem dX12_safe_33 : decode cX12_safe 33 = .ok (.iconst 0, 1) := by decide +kernel
theorem dX12_safe_34 : decode cX12_safe 34 = .ok (.istore_n 3, 1) := by decide +kernel
theorem dX12_safe_35 : decode cX12_safe 35 = .ok (.iload_n 3, 1) := by decide +kernel
theorem dX12_safe_36 : decode cX12_safe 36 = .ok (.iload_n 2, 1) := by decide +kernel
theorem dX12_safe_37 : decode cX12_safe 37 = .ok (.if_icmp .ge 22, 3) := by decide +kernel
theorem dX12_safe_40 : decode cX12_safe 40 = .ok (.aload_n 0, 1) := by decide +kernel
theorem dX12_safe_41 : decode cX12_safe 41 = .ok (.getfield 189, 3) := by decide +kernel
theorem dX12_safe_44 : decode cX12_safe 44 = .ok (.iload_n 3, 1) := by decide +kernel
theorem dX12_safe_45 : decode cX12_safe 45 = .ok (.aload_n 0, 1) := by decide +kernel
theorem dX12_safe_46 : decode cX12_safe 46 = .ok (.iconst 0, 1) := by decide +kernel
theorem dX12_safe_47 : decode cX12_safe 47 = .ok (.iload_n 1, 1) := by decide +kernel
theorem dX12_safe_48 : decode cX12_safe 48 = .ok (.iload_n 3, 1) := by decide +kernel
theorem dX12_safe_49 : decode cX12_safe 49 = .ok (.invokevirtual 425, 3) := by decide +kernel
theorem dX12_safe_52 : decode cX12_safe 52 = .ok (.iastore, 1) := by decide +kernel
theorem dX12_safe_53 : decode cX12_safe 53 = .ok (.iinc 3 1, 3) := by decide +kernel
theorem dX12_safe_56 : decode cX12_safe 56 = .ok (.goto (-21), 3) := by decide +kernel
theorem dX12_safe_59 : decode cX12_safe 59 = .ok (.bipush 20, 2) := by decide +kernel
theorem dX12_safe_61 : decode cX12_safe 61 = .ok (.istore_n 3, 1) := by decide +kernel
theorem dX12_safe_62 : decode cX12_safe 62 = .ok (.iload_n 3, 1) := by decide +kernel
theorem dX12_safe_63 : decode cX12_safe 63 = .ok (.ifCond .lt 21, 3) := by decide +kernel
theorem dX12_safe_66 : decode cX12_safe 66 = .ok (.aload_n 0, 1) := by decide +kernel
theorem dX12_safe_67 : decode cX12_safe 67 = .ok (.iload_n 2, 1) := by decide +kernel
theorem dX12_safe_68 : decode cX12_safe 68 = .ok (.iload_n 3, 1) := by decide +kernel
theorem dX12_safe_69 : decode cX12_safe 69 = .ok (.invokevirtual 468, 3) := by decide +kernel
theorem dX12_safe_72 : decode cX12_safe 72 = .ok (.iconst (-1), 1) := by decide +kernel
theorem dX12_safe_73 : decode cX12_safe 73 = .ok (.if_icmp .eq 5, 3) := by decide +kernel
theorem dX12_safe_76 : decode cX12_safe 76 = .ok (.iload_n 3, 1) := by decide +kernel
theorem dX12_safe_77 : decode cX12_safe 77 = .ok (.ireturn, 1) := by decide +kernel
theorem dX12_safe_78 : decode cX12_safe 78 = .ok (.iinc 3 (-1), 3) := by decide +kernel
theorem dX12_safe_81 : decode cX12_safe 81 = .ok (.goto (-19), 3) := by decide +kernel
theorem dX12_safe_84 : decode cX12_safe 84 = .ok (.iconst (-1), 1) := by decide +kernel
theorem dX12_safe_85 : decode cX12_safe 85 = .ok (.ireturn, 1) := by decide +kernel
theorem dX12_isNextRow_0 : decode cX12_isNextRow 0 = .ok (.iload_n 1, 1) := by decide +kernel
theorem dX12_isNextRow_1 : decode cX12_isNextRow 1 = .ok (.iconst 2, 1) := by decide +kernel
theorem dX12_isNextRow_2 : decode cX12_isNextRow 2 = .ok (.isub, 1) := by decide +kernel
theorem dX12_isNextRow_3 : decode cX12_isNextRow 3 = .ok (.istore_n 2, 1) := by decide +kernel
theorem dX12_isNextRow_4 : decode cX12_isNextRow 4 = .ok (.iload_n 2, 1) := by decide +kernel
theorem dX12_isNextRow_5 : decode cX12_isNextRow 5 = .ok (.ifCond .lt 26, 3) := by decide +kernel
theorem dX12_isNextRow_8 : decode cX12_isNextRow 8 = .ok (.aload_n 0, 1) := by decide +kernel
theorem dX12_isNextRow_9 : decode cX12_isNextRow 9 = .ok (.getfield 189, 3) := by decide +kernel
theorem dX12_isNextRow_12 : decode cX12_isNextRow 12 = .ok (.iload_n 2, 1) := by decide +kernel
theorem dX12_isNextRow_13 : decode cX12_isNextRow 13 = .ok (.iaload, 1) := by decide +kernel
theorem dX12_isNextRow_14 : decode cX12_isNextRow 14 = .ok (.aload_n 0, 1) := by decide +kernel
theorem dX12_isNextRow_15 : decode cX12_isNextRow 15 = .ok (.getfield 189, 3) := by decide +kernel
theorem dX12_isNextRow_18 : decode cX12_isNextRow 18 = .ok (.iload_n 2, 1) := by decide +kernel
theorem dX12_isNextRow_19 : decode cX12_isNextRow 19 = .ok (.iconst 1, 1) := by decide +kernel
theorem dX12_isNextRow_20 : decode cX12_isNextRow 20 = .ok (.iadd, 1) := by decide +kernel
theorem dX12_isNextRow_21 : decode cX12_isNextRow 21 = .ok (.iaload, 1) := by decide +kernel
theorem dX12_isNextRow_22 : decode cX12_isNextRow 22 = .ok (.if_icmp .lt 9, 3) := by decide +kernel
theorem dX12_isNextRow_25 : decode cX12_isNextRow 25 = .ok (.iinc 2 (-1), 3) := by decide +kernel
theorem dX12_isNextRow_28 : decode cX12_isNextRow 28 = .ok (.goto (-24), 3) := by decide +kernel
theorem dX12_isNextRow_31 : decode cX12_isNextRow 31 = .ok (.iload_n 2, 1) := by decide +kernel
theorem dX12_isNextRow_32 : decode cX12_isNextRow 32 = .ok (.ifCond .ge 5, 3) := by decide +kernel
theorem dX12_isNextRow_35 : decode cX12_isNextRow 35 = .ok (.iconst 0, 1) := by decide +kernel
theorem dX12_isNextRow_36 : decode cX12_isNextRow 36 = .ok (.ireturn, 1) := by decide +kernel
theorem dX12_isNextRow_37 : decode cX12_isNextRow 37 = .ok (.iload_n 1, 1) := by decide +kernel
theorem dX12_isNextRow_38 : decode cX12_isNextRow 38 = .ok (.iconst 1, 1) := by decide +kernel
theorem dX12_isNextRow_39 : decode cX12_isNextRow 39 = .ok (.isub, 1) := by decide +kernel
theorem dX12_isNextRow_40 : decode cX12_isNextRow 40 = .ok (.istore_n 3, 1) := by decide +kernel
theorem dX12_isNextRow_41 : decode cX12_isNextRow 41 = .ok (.aload_n 0, 1) := by decide +kernel
theorem dX12_isNextRow_42 : decode cX12_isNextRow 42 = .ok (.getfield 189, 3) := by decide +kernel
theorem dX12_isNextRow_45 : decode cX12_isNextRow 45 = .ok (.iload_n 3, 1) := by decide +kernel
theorem dX12_isNextRow_46 : decode cX12_isNextRow 46 = .ok (.iaload, 1) := by decide +kernel
theorem dX12_isNextRow_47 : decode cX12_isNextRow 47 = .ok (.aload_n 0, 1) := by decide +kernel
theorem dX12_isNextRow_48 : decode cX12_isNextRow 48 = .ok (.getfield 189, 3) := by decide +kernel
theorem dX12_isNextRow_51 : decode cX12_isNextRow 51 = .ok (.iload_n 2, 1) := by decide +kernel
theorem dX12_isNextRow_52 : decode cX12_isNextRow 52 = .ok (.iaload, 1) := by decide +kernel
theorem dX12_isNextRow_53 : decode cX12_isNextRow 53 = .ok (.if_icmp .gt 9, 3) := by decide +kernel
theorem dX12_isNextRow_56 : decode cX12_isNextRow 56 = .ok (.iinc 3 (-1), 3) := by decide +kernel
theorem dX12_isNextRow_59 : decode cX12_isNextRow 59 = .ok (.goto (-18), 3) := by decide +kernel
theorem dX12_isNextRow_62 : decode cX12_isNextRow 62 = .ok (.aload_n 0, 1) := by decide +kernel
theorem dX12_isNextRow_63 : decode cX12_isNextRow 63 = .ok (.iload_n 2, 1) := by decide +kernel
theorem dX12_isNextRow_64 : decode cX12_isNextRow 64 = .ok (.iload_n 3, 1) := by decide +kernel
theorem dX12_isNextRow_65 : decode cX12_isNextRow 65 = .ok (.invokevirtual 471, 3) := by decide +kernel
theorem dX12_isNextRow_68 : decode cX12_isNextRow 68 = .ok (.iload_n 2, 1) := by decide +kernel
theorem dX12_isNextRow_69 : decode cX12_isNextRow 69 = .ok (.iconst 1, 1) := by decide +kernel
theorem dX12_isNextRow_70 : decode cX12_isNextRow 70 = .ok (.iadd, 1) := by decide +kernel
theorem dX12_isNextRow_71 : decode cX12_isNextRow 71 = .ok (.istore 4, 2) := by decide +kernel
theorem dX12_isNextRow_73 : decode cX12_isNextRow 73 = .ok (.iload_n 1, 1) := by decide +kernel
theorem dX12_isNextRow_74 : decode cX12_isNextRow 74 = .ok (.iconst 1, 1) := by decide +kernel
theorem dX12_isNextRow_75 : decode cX12_isNextRow 75 = .ok (.isub, 1) := by decide +kernel
theorem dX12_isNextRow_76 : decode cX12_isNextRow 76 = .ok (.istore 5, 2) := by decide +kernel
theorem dX12_isNextRow_78 : decode cX12_isNextRow 78 = .ok (.iload 4, 2) := by decide +kernel
theorem dX12_isNextRow_80 : decode cX12_isNextRow 80 = .ok (.iload 5, 2) := by decide +kernel
theorem dX12_isNextRow_82 : decode cX12_isNextRow 82 = .ok (.if_icmp .ge 20, 3) := by decide +kernel
theorem dX12_isNextRow_85 : decode cX12_isNextRow 85 = .ok (.aload_n 0, 1) := by decide +kernel
theorem dX12_isNextRow_86 : decode cX12_isNextRow 86 = .ok (.iload 4, 2) := by decide +kernel
theorem dX12_isNextRow_88 : decode cX12_isNextRow 88 = .ok (.iload 5, 2) := by decide +kernel
theorem dX12_isNextRow_90 : decode cX12_isNextRow 90 = .ok (.invokevirtual 471, 3) := by decide +kernel
theorem dX12_isNextRow_93 : decode cX12_isNextRow 93 = .ok (.iinc 5 (-1), 3) := by decide +kernel
theorem dX12_isNextRow_96 : decode cX12_isNextRow 96 = .ok (.iinc 4 1, 3) := by decide +kernel
theorem dX12_isNextRow_99 : decode cX12_isNextRow 99 = .ok (.goto (-21), 3) := by decide +kernel
theorem dX12_isNextRow_102 : decode cX12_isNextRow 102 = .ok (.iconst 1, 1) := by decide +kernel
theorem dX12_isNextRow_103 : decode cX12_isNextRow 103 = .ok (.ireturn, 1) := by decide +kernel
theorem dX12_changes_0 : decode cX12_changes 0 = .ok (.aload_n 0, 1) := by decide +kernel
theorem dX12_changes_1 : decode cX12_changes 1 = .ok (.getfield 189, 3) := by decide +kernel
theorem dX12_changes_4 : decode cX12_changes 4 = .ok (.iload_n 1, 1) := by decide +kernel
theorem dX12_changes_5 : decode cX12_changes 5 = .ok (.iaload, 1) := by decide +kernel
theorem dX12_changes_6 : decode cX12_changes 6 = .ok (.istore_n 3, 1) := by decide +kernel
theorem dX12_changes_7 : decode cX12_changes 7 = .ok (.aload_n 0, 1) := by decide +kernel
theorem dX12_changes_8 : decode cX12_changes 8 = .ok (.getfield 189, 3) := by decide +kernel
theorem dX12_changes_11 : decode cX12_changes 11 = .ok (.iload_n 1, 1) := by decide +kernel
theorem dX12_changes_12 : decode cX12_changes 12 = .ok (.aload_n 0, 1) := by decide +kernel
theorem dX12_changes_13 : decode cX12_changes 13 = .ok (.getfield 189, 3) := by decide +kernel
theorem dX12_changes_16 : decode cX12_changes 16 = .ok (.iload_n 2, 1) := by decide +kernel
theorem dX12_changes_17 : decode cX12_changes 17 = .ok (.iaload, 1) := by decide +kernel
theorem dX12_changes_18 : decode cX12_changes 18 = .ok (.iastore, 1) := by decide +kernel
theorem dX12_changes_19 : decode cX12_changes 19 = .ok (.aload_n 0, 1) := by decide +kernel
theorem dX12_changes_20 : decode cX12_changes 20 = .ok (.getfield 189, 3) := by decide +kernel
theorem dX12_changes_23 : decode cX12_changes 23 = .ok (.iload_n 2, 1) := by decide +kernel
theorem dX12_changes_24 : decode cX12_changes 24 = .ok (.iload_n 3, 1) := by decide +kernel
theorem dX12_changes_25 : decode cX12_changes 25 = .ok (.iastore, 1) := by decide +kernel
theorem dX12_changes_26 : decode cX12_changes 26 = .ok (.return_, 1) := by decide +kernel
theorem dX12_firstRow_0 : decode cX12_firstRow 0 = .ok (.iconst 0, 1) := by decide +kernel
theorem dX12_firstRow_1 : decode cX12_firstRow 1 = .ok (.istore_n 3, 1) := by decide +kernel
theorem dX12_firstRow_2 : decode cX12_firstRow 2 = .ok (.aload_n 0, 1) := by decide +kernel
theorem dX12_firstRow_3 : decode cX12_firstRow 3 = .ok (.iconst 0, 1) := by decide +kernel
theorem dX12_firstRow_4 : decode cX12_firstRow 4 = .ok (.iload_n 1, 1) := by decide +kernel
theorem dX12_firstRow_5 : decode cX12_firstRow 5 = .ok (.invokevirtual 422, 3) := by decide +kernel
theorem dX12_firstRow_8 : decode cX12_firstRow 8 = .ok (.istore 4, 2) := by decide +kernel
theorem dX12_firstRow_10 : decode cX12_firstRow 10 = .ok (.iload 4, 2) := by decide +kernel
theorem dX12_firstRow_12 : decode cX12_firstRow 12 = .ok (.iload_n 2, 1) := by decide +kernel
theorem dX12_firstRow_13 : decode cX12_firstRow 13 = .ok (.if_icmp .ge 19, 3) := by decide +kernel
theorem dX12_firstRow_16 : decode cX12_firstRow 16 = .ok (.aload_n 0, 1) := by decide +kernel
theorem dX12_firstRow_17 : decode cX12_firstRow 17 = .ok (.getfield 189, 3) := by decide +kernel
theorem dX12_firstRow_20 : decode cX12_firstRow 20 = .ok (.iload_n 3, 1) := by decide +kernel
theorem dX12_firstRow_21 : decode cX12_firstRow 21 = .ok (.iconst (-1), 1) := by decide +kernel
theorem dX12_firstRow_22 : decode cX12_firstRow 22 = .ok (.iastore, 1) := by decide +kernel
theorem dX12_firstRow_23 : decode cX12_firstRow 23 = .ok (.iinc 3 1, 3) := by decide +kernel
theorem dX12_firstRow_26 : decode cX12_firstRow 26 = .ok (.iinc 4 1, 3) := by decide +kernel
theorem dX12_firstRow_29 : decode cX12_firstRow 29 = .ok (.goto (-19), 3) := by decide +kernel
theorem dX12_firstRow_32 : decode cX12_firstRow 32 = .ok (.iconst 0, 1) := by decide +kernel
theorem dX12_firstRow_33 : decode cX12_firstRow 33 = .ok (.istore 4, 2) := by decide +kernel
theorem dX12_firstRow_35 : decode cX12_firstRow 35 = .ok (.iload 4, 2) := by decide +kernel
theorem dX12_firstRow_37 : decode cX12_firstRow 37 = .ok (.aload_n 0, 1) := by decide +kernel
theorem dX12_firstRow_38 : decode cX12_firstRow 38 = .ok (.getfield 54, 3) := by decide +kernel
theorem dX12_firstRow_41 : decode cX12_firstRow 41 = .ok (.aload_n 0, 1) := by decide +kernel
theorem dX12_firstRow_42 : decode cX12_firstRow 42 = .ok (.getfield 51, 3) := by decide +kernel
theorem dX12_firstRow_45 : decode cX12_firstRow 45 = .ok (.iaload, 1) := by decide +kernel
theorem dX12_firstRow_46 : decode cX12_firstRow 46 = .ok (.if_icmp .ge 34, 3) := by decide +kernel
theorem dX12_firstRow_49 : decode cX12_firstRow 49 = .ok (.aload_n 0, 1) := by decide +kernel
theorem dX12_firstRow_50 : decode cX12_firstRow 50 = .ok (.getfield 147, 3) := by decide +kernel
theorem dX12_firstRow_53 : decode cX12_firstRow 53 = .ok (.iload 4, 2) := by decide +kernel
theorem dX12_firstRow_55 : decode cX12_firstRow 55 = .ok (.iaload, 1) := by decide +kernel
theorem dX12_firstRow_56 : decode cX12_firstRow 56 = .ok (.iload_n 1, 1) := by decide +kernel
theorem dX12_firstRow_57 : decode cX12_firstRow 57 = .ok (.if_icmp .eq 6, 3) := by decide +kernel
theorem dX12_firstRow_60 : decode cX12_firstRow 60 = .ok (.goto 14, 3) := by decide +kernel
theorem dX12_firstRow_63 : decode cX12_firstRow 63 = .ok (.aload_n 0, 1) := by decide +kernel
theorem dX12_firstRow_64 : decode cX12_firstRow 64 = .ok (.getfield 189, 3) := by decide +kernel
theorem dX12_firstRow_67 : decode cX12_firstRow 67 = .ok (.iload_n 3, 1) := by decide +kernel
theorem dX12_firstRow_68 : decode cX12_firstRow 68 = .ok (.iload 4, 2) := by decide +kernel
theorem dX12_firstRow_70 : decode cX12_firstRow 70 = .ok (.iastore, 1) := by decide +kernel
theorem dX12_firstRow_71 : decode cX12_firstRow 71 = .ok (.iinc 3 1, 3) := by decide +kernel
theorem dX12_firstRow_74 : decode cX12_firstRow 74 = .ok (.iinc 4 1, 3) := by decide +kernel
theorem dX12_firstRow_77 : decode cX12_firstRow 77 = .ok (.goto (-42), 3) := by decide +kernel
theorem dX12_firstRow_80 : decode cX12_firstRow 80 = .ok (.return_, 1) := by decide +kernel
theorem dX12_best_0 : decode cX12_best 0 = .ok (.aload_n 0, 1) := by decide +kernel
theorem dX12_best_1 : decode cX12_best 1 = .ok (.iload_n 1, 1) := by decide +kernel
theorem dX12_best_2 : decode cX12_best 2 = .ok (.invokevirtual 447, 3) := by decide +kernel
theorem dX12_best_5 : decode cX12_best 5 = .ok (.ifCond .eq 35, 3) := by decide +kernel
theorem dX12_best_8 : decode cX12_best 8 = .ok (.aload_n 0, 1) := by decide +kernel
theorem dX12_best_9 : decode cX12_best 9 = .ok (.iconst 0, 1) := by decide +kernel
theorem dX12_best_10 : decode cX12_best 10 = .ok (.iload_n 1, 1) := by decide +kernel
theorem dX12_best_11 : decode cX12_best 11 = .ok (.invokevirtual 422, 3) := by decide +kernel
theorem dX12_best_14 : decode cX12_best 14 = .ok (.ifCond .eq 26, 3) := by decide +kernel
theorem dX12_best_17 : decode cX12_best 17 = .ok (.iload_n 2, 1) := by decide +kernel
theorem dX12_best_18 : decode cX12_best 18 = .ok (.iconst 0, 1) := by decide +kernel
theorem dX12_best_19 : decode cX12_best 19 = .ok (.iconst 1, 1) := by decide +kernel
theorem dX12_best_20 : decode cX12_best 20 = .ok (.aload_n 0, 1) := by decide +kernel
theorem dX12_best_21 : decode cX12_best 21 = .ok (.getfield 66, 3) := by decide +kernel
theorem dX12_best_24 : decode cX12_best 24 = .ok (.iconst 3, 1) := by decide +kernel
theorem dX12_best_25 : decode cX12_best 25 = .ok (.aload_n 0, 1) := by decide +kernel
theorem dX12_best_26 : decode cX12_best 26 = .ok (.getfield 51, 3) := by decide +kernel
theorem dX12_best_29 : decode cX12_best 29 = .ok (.imul, 1) := by decide +kernel
theorem dX12_best_30 : decode cX12_best 30 = .ok (.iload_n 1, 1) := by decide +kernel
theorem dX12_best_31 : decode cX12_best 31 = .ok (.iadd, 1) := by decide +kernel
theorem dX12_best_32 : decode cX12_best 32 = .ok (.iaload, 1) := by decide +kernel
theorem dX12_best_33 : decode cX12_best 33 = .ok (.iadd, 1) := by decide +kernel
theorem dX12_best_34 : decode cX12_best 34 = .ok (.invokestatic 296, 3) := by decide +kernel
theorem dX12_best_37 : decode cX12_best 37 = .ok (.ifCond .ne 5, 3) := by decide +kernel
theorem dX12_best_40 : decode cX12_best 40 = .ok (.iconst (-1), 1) := by decide +kernel
theorem dX12_best_41 : decode cX12_best 41 = .ok (.ireturn, 1) := by decide +kernel
theorem dX12_best_42 : decode cX12_best 42 = .ok (.aload_n 0, 1) := by decide +kernel
theorem dX12_best_43 : decode cX12_best 43 = .ok (.getfield 66, 3) := by decide +kernel
theorem dX12_best_46 : decode cX12_best 46 = .ok (.iconst 3, 1) := by decide +kernel
theorem dX12_best_47 : decode cX12_best 47 = .ok (.aload_n 0, 1) := by decide +kernel
theorem dX12_best_48 : decode cX12_best 48 = .ok (.getfield 51, 3) := by decide +kernel
theorem dX12_best_51 : decode cX12_best 51 = .ok (.imul, 1) := by decide +kernel
theorem dX12_best_52 : decode cX12_best 52 = .ok (.iload_n 1, 1) := by decide +kernel
theorem dX12_best_53 : decode cX12_best 53 = .ok (.iadd, 1) := by decide +kernel
theorem dX12_best_54 : decode cX12_best 54 = .ok (.iaload, 1) := by decide +kernel
theorem dX12_best_55 : decode cX12_best 55 = .ok (.istore_n 3, 1) := by decide +kernel
theorem dX12_best_56 : decode cX12_best 56 = .ok (.iconst (-1), 1) := by decide +kernel
theorem dX12_best_57 : decode cX12_best 57 = .ok (.istore 4, 2) := by decide +kernel
theorem dX12_best_59 : decode cX12_best 59 = .ok (.iconst (-1), 1) := by decide +kernel
theorem dX12_best_60 : decode cX12_best 60 = .ok (.istore 5, 2) := by decide +kernel
theorem dX12_best_62 : decode cX12_best 62 = .ok (.iconst 0, 1) := by decide +kernel
theorem dX12_best_63 : decode cX12_best 63 = .ok (.istore 6, 2) := by decide +kernel
theorem dX12_best_65 : decode cX12_best 65 = .ok (.iload 6, 2) := by decide +kernel
theorem dX12_best_67 : decode cX12_best 67 = .ok (.bipush 20, 2) := by decide +kernel
theorem dX12_best_69 : decode cX12_best 69 = .ok (.if_icmp .gt 86, 3) := by decide +kernel
theorem dX12_best_72 : decode cX12_best 72 = .ok (.aload_n 0, 1) := by decide +kernel
theorem dX12_best_73 : decode cX12_best 73 = .ok (.iload_n 1, 1) := by decide +kernel
theorem dX12_best_74 : decode cX12_best 74 = .ok (.iload_n 3, 1) := by decide +kernel
theorem dX12_best_75 : decode cX12_best 75 = .ok (.invokevirtual 474, 3) := by decide +kernel
theorem dX12_best_78 : decode cX12_best 78 = .ok (.iconst 1, 1) := by decide +kernel
theorem dX12_best_79 : decode cX12_best 79 = .ok (.istore 7, 2) := by decide +kernel
theorem dX12_best_81 : decode cX12_best 81 = .ok (.iload 7, 2) := by decide +kernel
theorem dX12_best_83 : decode cX12_best 83 = .ok (.ifCond .eq 66, 3) := by decide +kernel
theorem dX12_best_86 : decode cX12_best 86 = .ok (.aload_n 0, 1) := by decide +kernel
theorem dX12_best_87 : decode cX12_best 87 = .ok (.iload_n 3, 1) := by decide +kernel
theorem dX12_best_88 : decode cX12_best 88 = .ok (.iload 6, 2) := by decide +kernel
theorem dX12_best_90 : decode cX12_best 90 = .ok (.invokevirtual 468, 3) := by decide +kernel
theorem dX12_best_93 : decode cX12_best 93 = .ok (.istore 8, 2) := by decide +kernel
theorem dX12_best_95 : decode cX12_best 95 = .ok (.iload 8, 2) := by decide +kernel
theorem dX12_best_97 : decode cX12_best 97 = .ok (.iload 5, 2) := by decide +kernel
theorem dX12_best_99 : decode cX12_best 99 = .ok (.if_icmp .le 40, 3) := by decide +kernel
theorem dX12_best_102 : decode cX12_best 102 = .ok (.iload 8, 2) := by decide +kernel
theorem dX12_best_104 : decode cX12_best 104 = .ok (.istore 5, 2) := by decide +kernel
theorem dX12_best_106 : decode cX12_best 106 = .ok (.iload 6, 2) := by decide +kernel
theorem dX12_best_108 : decode cX12_best 108 = .ok (.istore 4, 2) := by decide +kernel
theorem dX12_best_110 : decode cX12_best 110 = .ok (.iconst 0, 1) := by decide +kernel
theorem dX12_best_111 : decode cX12_best 111 = .ok (.istore 9, 2) := by decide +kernel
theorem dX12_best_113 : decode cX12_best 113 = .ok (.iload 9, 2) := by decide +kernel
theorem dX12_best_115 : decode cX12_best 115 = .ok (.iload_n 3, 1) := by decide +kernel
theorem dX12_best_116 : decode cX12_best 116 = .ok (.if_icmp .ge 23, 3) := by decide +kernel
theorem dX12_best_119 : decode cX12_best 119 = .ok (.aload_n 0, 1) := by decide +kernel
theorem dX12_best_120 : decode cX12_best 120 = .ok (.getfield 192, 3) := by decide +kernel
theorem dX12_best_123 : decode cX12_best 123 = .ok (.iload 9, 2) := by decide +kernel
theorem dX12_best_125 : decode cX12_best 125 = .ok (.aload_n 0, 1) := by decide +kernel
theorem dX12_best_126 : decode cX12_best 126 = .ok (.getfield 189, 3) := by decide +kernel
theorem dX12_best_129 : decode cX12_best 129 = .ok (.iload 9, 2) := by decide +kernel
theorem dX12_best_131 : decode cX12_best 131 = .ok (.iaload, 1) := by decide +kernel
theorem dX12_best_132 : decode cX12_best 132 = .ok (.iastore, 1) := by decide +kernel
theorem dX12_best_133 : decode cX12_best 133 = .ok (.iinc 9 1, 3) := by decide +kernel
theorem dX12_best_136 : decode cX12_best 136 = .ok (.goto (-23), 3) := by decide +kernel
theorem dX12_best_139 : decode cX12_best 139 = .ok (.aload_n 0, 1) := by decide +kernel
theorem dX12_best_140 : decode cX12_best 140 = .ok (.iload_n 3, 1) := by decide +kernel
theorem dX12_best_141 : decode cX12_best 141 = .ok (.invokevirtual 477, 3) := by decide +kernel
theorem dX12_best_144 : decode cX12_best 144 = .ok (.istore 7, 2) := by decide +kernel
theorem dX12_best_146 : decode cX12_best 146 = .ok (.goto (-65), 3) := by decide +kernel
theorem dX12_best_149 : decode cX12_best 149 = .ok (.iinc 6 1, 3) := by decide +kernel
theorem dX12_best_152 : decode cX12_best 152 = .ok (.goto (-87), 3) := by decide +kernel
theorem dX12_best_155 : decode cX12_best 155 = .ok (.iload 4, 2) := by decide +kernel
theorem dX12_best_157 : decode cX12_best 157 = .ok (.iconst (-1), 1) := by decide +kernel
theorem dX12_best_158 : decode cX12_best 158 = .ok (.if_icmp .eq 7, 3) := by decide +kernel
theorem dX12_best_161 : decode cX12_best 161 = .ok (.iload_n 2, 1) := by decide +kernel
theorem dX12_best_162 : decode cX12_best 162 = .ok (.ifCond .ne 8, 3) := by decide +kernel
theorem dX12_best_165 : decode cX12_best 165 = .ok (.iload 4, 2) := by decide +kernel
theorem dX12_best_167 : decode cX12_best 167 = .ok (.goto 21, 3) := by decide +kernel
theorem dX12_best_170 : decode cX12_best 170 = .ok (.iload_n 2, 1) := by decide +kernel
theorem dX12_best_171 : decode cX12_best 171 = .ok (.iconst 1, 1) := by decide +kernel
theorem dX12_best_172 : decode cX12_best 172 = .ok (.if_icmp .ne 8, 3) := by decide +kernel
theorem dX12_best_175 : decode cX12_best 175 = .ok (.iload 5, 2) := by decide +kernel
theorem dX12_best_177 : decode cX12_best 177 = .ok (.goto 11, 3) := by decide +kernel
theorem dX12_best_180 : decode cX12_best 180 = .ok (.aload_n 0, 1) := by decide +kernel
theorem dX12_best_181 : decode cX12_best 181 = .ok (.getfield 192, 3) := by decide +kernel
theorem dX12_best_184 : decode cX12_best 184 = .ok (.iload_n 2, 1) := by decide +kernel
theorem dX12_best_185 : decode cX12_best 185 = .ok (.iconst 2, 1) := by decide +kernel
theorem dX12_best_186 : decode cX12_best 186 = .ok (.isub, 1) := by decide +kernel
theorem dX12_best_187 : decode cX12_best 187 = .ok (.iaload, 1) := by decide +kernel
theorem dX12_best_188 : decode cX12_best 188 = .ok (.ireturn, 1) := by decide +kernel
theorem dX12_brothers_0 : decode cX12_brothers 0 = .ok (.aload_n 0, 1) := by decide +kernel
theorem dX12_brothers_1 : decode cX12_brothers 1 = .ok (.iload_n 1, 1) := by decide +kernel
theorem dX12_brothers_2 : decode cX12_brothers 2 = .ok (.invokevirtual 453, 3) := by decide +kernel
theorem dX12_brothers_5 : decode cX12_brothers 5 = .ok (.ifCond .ne 5, 3) := by decide +kernel
theorem dX12_brothers_8 : decode cX12_brothers 8 = .ok (.iconst (-1), 1) := by decide +kernel
theorem dX12_brothers_9 : decode cX12_brothers 9 = .ok (.ireturn, 1) := by decide +kernel
theorem dX12_brothers_10 : decode cX12_brothers 10 = .ok (.aload_n 0, 1) := by decide +kernel
theorem dX12_brothers_11 : decode cX12_brothers 11 = .ok (.getfield 153, 3) := by decide +kernel
theorem dX12_brothers_14 : decode cX12_brothers 14 = .ok (.iload_n 1, 1) := by decide +kernel
theorem dX12_brothers_15 : decode cX12_brothers 15 = .ok (.iaload, 1) := by decide +kernel
theorem dX12_brothers_16 : decode cX12_brothers 16 = .ok (.iconst (-1), 1) := by decide +kernel
theorem dX12_brothers_17 : decode cX12_brothers 17 = .ok (.if_icmp .ne 7, 3) := by decide +kernel
theorem dX12_brothers_20 : decode cX12_brothers 20 = .ok (.iconst 0, 1) := by decide +kernel
theorem dX12_brothers_21 : decode cX12_brothers 21 = .ok (.goto 6, 3) := by decide +kernel
theorem dX12_brothers_24 : decode cX12_brothers 24 = .ok (.iconst 1, 1) := by decide +kernel
theorem dX12_brothers_25 : decode cX12_brothers 25 = .ok (.iload_n 1, 1) := by decide +kernel
theorem dX12_brothers_26 : decode cX12_brothers 26 = .ok (.ishl, 1) := by decide +kernel
theorem dX12_brothers_27 : decode cX12_brothers 27 = .ok (.istore_n 2, 1) := by decide +kernel
theorem dX12_brothers_28 : decode cX12_brothers 28 = .ok (.iconst 1, 1) := by decide +kernel
theorem dX12_brothers_29 : decode cX12_brothers 29 = .ok (.istore_n 3, 1) := by decide +kernel
theorem dX12_brothers_30 : decode cX12_brothers 30 = .ok (.iload_n 3, 1) := by decide +kernel
theorem dX12_brothers_31 : decode cX12_brothers 31 = .ok (.ifCond .eq 72, 3) := by decide +kernel
theorem dX12_brothers_34 : decode cX12_brothers 34 = .ok (.iload_n 2, 1) := by decide +kernel
theorem dX12_brothers_35 : decode cX12_brothers 35 = .ok (.istore 4, 2) := by decide +kernel
theorem dX12_brothers_37 : decode cX12_brothers 37 = .ok (.iconst 0, 1) := by decide +kernel
theorem dX12_brothers_38 : decode cX12_brothers 38 = .ok (.istore 5, 2) := by decide +kernel
theorem dX12_brothers_40 : decode cX12_brothers 40 = .ok (.iload 5, 2) := by decide +kernel
theorem dX12_brothers_42 : decode cX12_brothers 42 = .ok (.aload_n 0, 1) := by decide +kernel
theorem dX12_brothers_43 : decode cX12_brothers 43 = .ok (.getfield 54, 3) := by decide +kernel
theorem dX12_brothers_46 : decode cX12_brothers 46 = .ok (.aload_n 0, 1) := by decide +kernel
theorem dX12_brothers_47 : decode cX12_brothers 47 = .ok (.getfield 51, 3) := by decide +kernel
theorem dX12_brothers_50 : decode cX12_brothers 50 = .ok (.iaload, 1) := by decide +kernel
theorem dX12_brothers_51 : decode cX12_brothers 51 = .ok (.if_icmp .ge 34, 3) := by decide +kernel
theorem dX12_brothers_54 : decode cX12_brothers 54 = .ok (.iload 4, 2) := by decide +kernel
theorem dX12_brothers_56 : decode cX12_brothers 56 = .ok (.iload_n 2, 1) := by decide +kernel
theorem dX12_brothers_57 : decode cX12_brothers 57 = .ok (.iload 5, 2) := by decide +kernel
theorem dX12_brothers_59 : decode cX12_brothers 59 = .ok (.invokestatic 458, 3) := by decide +kernel
theorem dX12_brothers_62 : decode cX12_brothers 62 = .ok (.ifCond .eq 13, 3) := by decide +kernel
theorem dX12_brothers_65 : decode cX12_brothers 65 = .ok (.aload_n 0, 1) := by decide +kernel
theorem dX12_brothers_66 : decode cX12_brothers 66 = .ok (.getfield 156, 3) := by decide +kernel
theorem dX12_brothers_69 : decode cX12_brothers 69 = .ok (.iload 5, 2) := by decide +kernel
theorem dX12_brothers_71 : decode cX12_brothers 71 = .ok (.iaload, 1) := by decide +kernel
theorem dX12_brothers_72 : decode cX12_brothers 72 = .ok (.goto 4, 3) := by decide +kernel
theorem dX12_brothers_75 : decode cX12_brothers 75 = .ok (.iconst 0, 1) := by decide +kernel
theorem dX12_brothers_76 : decode cX12_brothers 76 = .ok (.ior, 1) := by decide +kernel
theorem dX12_brothers_77 : decode cX12_brothers 77 = .ok (.istore 4, 2) := by decide +kernel
theorem dX12_brothers_79 : decode cX12_brothers 79 = .ok (.iinc 5 1, 3) := by decide +kernel
theorem dX12_brothers_82 : decode cX12_brothers 82 = .ok (.goto (-42), 3) := by decide +kernel
theorem dX12_brothers_85 : decode cX12_brothers 85 = .ok (.iload 4, 2) := by decide +kernel
theorem dX12_brothers_87 : decode cX12_brothers 87 = .ok (.iload_n 2, 1) := by decide +kernel
theorem dX12_brothers_88 : decode cX12_brothers 88 = .ok (.if_icmp .eq 7, 3) := by decide +kernel
theorem dX12_brothers_91 : decode cX12_brothers 91 = .ok (.iconst 1, 1) := by decide +kernel
theorem dX12_brothers_92 : decode cX12_brothers 92 = .ok (.goto 4, 3) := by decide +kernel
theorem dX12_brothers_95 : decode cX12_brothers 95 = .ok (.iconst 0, 1) := by decide +kernel
theorem dX12_brothers_96 : decode cX12_brothers 96 = .ok (.istore_n 3, 1) := by decide +kernel
theorem dX12_brothers_97 : decode cX12_brothers 97 = .ok (.iload 4, 2) := by decide +kernel
theorem dX12_brothers_99 : decode cX12_brothers 99 = .ok (.istore_n 2, 1) := by decide +kernel
theorem dX12_brothers_100 : decode cX12_brothers 100 = .ok (.goto (-70), 3) := by decide +kernel
theorem dX12_brothers_103 : decode cX12_brothers 103 = .ok (.iload_n 2, 1) := by decide +kernel
theorem dX12_brothers_104 : decode cX12_brothers 104 = .ok (.ireturn, 1) := by decide +kernel
theorem dX12_isAhead_0 : decode cX12_isAhead 0 = .ok (.iload_n 1, 1) := by decide +kernel
theorem dX12_isAhead_1 : decode cX12_isAhead 1 = .ok (.iload_n 2, 1) := by decide +kernel
theorem dX12_isAhead_2 : decode cX12_isAhead 2 = .ok (.iload_n 3, 1) := by decide +kernel
theorem dX12_isAhead_3 : decode cX12_isAhead 3 = .ok (.invokestatic 296, 3) := by decide +kernel
theorem dX12_isAhead_6 : decode cX12_isAhead 6 = .ok (.ifCond .eq 21, 3) := by decide +kernel
theorem dX12_isAhead_9 : decode cX12_isAhead 9 = .ok (.aload_n 0, 1) := by decide +kernel
theorem dX12_isAhead_10 : decode cX12_isAhead 10 = .ok (.getfield 141, 3) := by decide +kernel
theorem dX12_isAhead_13 : decode cX12_isAhead 13 = .ok (.iconst 0, 1) := by decide +kernel
theorem dX12_isAhead_14 : decode cX12_isAhead 14 = .ok (.iaload, 1) := by decide +kernel
theorem dX12_isAhead_15 : decode cX12_isAhead 15 = .ok (.sipush 999, 3) := by decide +kernel
theorem dX12_isAhead_18 : decode cX12_isAhead 18 = .ok (.iload_n 1, 1) := by decide +kernel
theorem dX12_isAhead_19 : decode cX12_isAhead 19 = .ok (.isub, 1) := by decide +kernel
theorem dX12_isAhead_20 : decode cX12_isAhead 20 = .ok (.if_icmp .gt 7, 3) := by decide +kernel
theorem dX12_isAhead_23 : decode cX12_isAhead 23 = .ok (.iconst 1, 1) := by decide +kernel
theorem dX12_isAhead_24 : decode cX12_isAhead 24 = .ok (.goto 4, 3) := by decide +kernel
theorem dX12_isAhead_27 : decode cX12_isAhead 27 = .ok (.iconst 0, 1) := by decide +kernel
theorem dX12_isAhead_28 : decode cX12_isAhead 28 = .ok (.ireturn, 1) := by decide +kernel
theorem dX12_tries_0 : decode cX12_tries 0 = .ok (.aload_n 0, 1) := by decide +kernel
theorem dX12_tries_1 : decode cX12_tries 1 = .ok (.iconst 1, 1) := by decide +kernel
theorem dX12_tries_2 : decode cX12_tries 2 = .ok (.iconst 0, 1) := by decide +kernel
theorem dX12_tries_3 : decode cX12_tries 3 = .ok (.invokevirtual 386, 3) := by decide +kernel
theorem dX12_tries_6 : decode cX12_tries 6 = .ok (.iconst 0, 1) := by decide +kernel
theorem dX12_tries_7 : decode cX12_tries 7 = .ok (.istore_n 2, 1) := by decide +kernel
theorem dX12_tries_8 : decode cX12_tries 8 = .ok (.iload_n 2, 1) := by decide +kernel
theorem dX12_tries_9 : decode cX12_tries 9 = .ok (.iload_n 1, 1) := by decide +kernel
theorem dX12_tries_10 : decode cX12_tries 10 = .ok (.if_icmp .ge 15, 3) := by decide +kernel
theorem dX12_tries_13 : decode cX12_tries 13 = .ok (.aload_n 0, 1) := by decide +kernel
theorem dX12_tries_14 : decode cX12_tries 14 = .ok (.iconst 1, 1) := by decide +kernel
theorem dX12_tries_15 : decode cX12_tries 15 = .ok (.iconst 0, 1) := by decide +kernel
theorem dX12_tries_16 : decode cX12_tries 16 = .ok (.invokevirtual 480, 3) := by decide +kernel
theorem dX12_tries_19 : decode cX12_tries 19 = .ok (.iinc 2 1, 3) := by decide +kernel
theorem dX12_tries_22 : decode cX12_tries 22 = .ok (.goto (-14), 3) := by decide +kernel
theorem dX12_tries_25 : decode cX12_tries 25 = .ok (.return_, 1) := by decide +kernel
theorem dX12_fired_0 : decode cX12_fired 0 = .ok (.aload_n 0, 1) := by decide +kernel
theorem dX12_fired_1 : decode cX12_fired 1 = .ok (.iload_n 1, 1) := by decide +kernel
theorem dX12_fired_2 : decode cX12_fired 2 = .ok (.invokevirtual 447, 3) := by decide +kernel
theorem dX12_fired_5 : decode cX12_fired 5 = .ok (.ifCond .ne 5, 3) := by decide +kernel
theorem dX12_fired_8 : decode cX12_fired 8 = .ok (.iconst (-1), 1) := by decide +kernel
theorem dX12_fired_9 : decode cX12_fired 9 = .ok (.ireturn, 1) := by decide +kernel
theorem dX12_fired_10 : decode cX12_fired 10 = .ok (.aload_n 0, 1) := by decide +kernel
theorem dX12_fired_11 : decode cX12_fired 11 = .ok (.iconst 1, 1) := by decide +kernel
theorem dX12_fired_12 : decode cX12_fired 12 = .ok (.iconst 0, 1) := by decide +kernel
theorem dX12_fired_13 : decode cX12_fired 13 = .ok (.invokevirtual 386, 3) := by decide +kernel
theorem dX12_fired_16 : decode cX12_fired 16 = .ok (.iconst 0, 1) := by decide +kernel
theorem dX12_fired_17 : decode cX12_fired 17 = .ok (.istore_n 2, 1) := by decide +kernel
theorem dX12_fired_18 : decode cX12_fired 18 = .ok (.aload_n 0, 1) := by decide +kernel
theorem dX12_fired_19 : decode cX12_fired 19 = .ok (.iload_n 2, 1) := by decide +kernel
theorem dX12_fired_20 : decode cX12_fired 20 = .ok (.iconst 1, 1) := by decide +kernel
theorem dX12_fired_21 : decode cX12_fired 21 = .ok (.iadd, 1) := by decide +kernel
theorem dX12_fired_22 : decode cX12_fired 22 = .ok (.iconst 1, 1) := by decide +kernel
theorem dX12_fired_23 : decode cX12_fired 23 = .ok (.bipush 40, 2) := by decide +kernel
theorem dX12_fired_25 : decode cX12_fired 25 = .ok (.invokevirtual 483, 3) := by decide +kernel
theorem dX12_fired_28 : decode cX12_fired 28 = .ok (.ifCond .eq 28, 3) := by decide +kernel
theorem dX12_fired_31 : decode cX12_fired 31 = .ok (.aload_n 0, 1) := by decide +kernel
theorem dX12_fired_32 : decode cX12_fired 32 = .ok (.iconst 1, 1) := by decide +kernel
theorem dX12_fired_33 : decode cX12_fired 33 = .ok (.iconst 0, 1) := by decide +kernel
theorem dX12_fired_34 : decode cX12_fired 34 = .ok (.invokevirtual 480, 3) := by decide +kernel
theorem dX12_fired_37 : decode cX12_fired 37 = .ok (.aload_n 0, 1) := by decide +kernel
theorem dX12_fired_38 : decode cX12_fired 38 = .ok (.getfield 186, 3) := by decide +kernel
theorem dX12_fired_41 : decode cX12_fired 41 = .ok (.iload_n 1, 1) := by decide +kernel
theorem dX12_fired_42 : decode cX12_fired 42 = .ok (.invokestatic 458, 3) := by decide +kernel
theorem dX12_fired_45 : decode cX12_fired 45 = .ok (.ifCond .eq 5, 3) := by decide +kernel
theorem dX12_fired_48 : decode cX12_fired 48 = .ok (.iload_n 2, 1) := by decide +kernel
theorem dX12_fired_49 : decode cX12_fired 49 = .ok (.ireturn, 1) := by decide +kernel
theorem dX12_fired_50 : decode cX12_fired 50 = .ok (.iinc 2 1, 3) := by decide +kernel
theorem dX12_fired_53 : decode cX12_fired 53 = .ok (.goto (-35), 3) := by decide +kernel
theorem dX12_fired_56 : decode cX12_fired 56 = .ok (.iconst (-1), 1) := by decide +kernel
theorem dX12_fired_57 : decode cX12_fired 57 = .ok (.ireturn, 1) := by decide +kernel
theorem dX12_fuel_0 : decode cX12_fuel 0 = .ok (.aload_n 0, 1) := by decide +kernel
theorem dX12_fuel_1 : decode cX12_fuel 1 = .ok (.iload_n 1, 1) := by decide +kernel
theorem dX12_fuel_2 : decode cX12_fuel 2 = .ok (.iconst 0, 1) := by decide +kernel
theorem dX12_fuel_3 : decode cX12_fuel 3 = .ok (.bipush 40, 2) := by decide +kernel
theorem dX12_fuel_5 : decode cX12_fuel 5 = .ok (.invokevirtual 483, 3) := by decide +kernel
theorem dX12_fuel_8 : decode cX12_fuel 8 = .ok (.ifCond .ne 5, 3) := by decide +kernel
theorem dX12_fuel_11 : decode cX12_fuel 11 = .ok (.iconst (-1), 1) := by decide +kernel
theorem dX12_fuel_12 : decode cX12_fuel 12 = .ok (.ireturn, 1) := by decide +kernel
theorem dX12_fuel_13 : decode cX12_fuel 13 = .ok (.aload_n 0, 1) := by decide +kernel
theorem dX12_fuel_14 : decode cX12_fuel 14 = .ok (.iload_n 1, 1) := by decide +kernel
theorem dX12_fuel_15 : decode cX12_fuel 15 = .ok (.invokevirtual 486, 3) := by decide +kernel
theorem dX12_fuel_18 : decode cX12_fuel 18 = .ok (.aload_n 0, 1) := by decide +kernel
theorem dX12_fuel_19 : decode cX12_fuel 19 = .ok (.getfield 144, 3) := by decide +kernel
theorem dX12_fuel_22 : decode cX12_fuel 22 = .ok (.iconst 1, 1) := by decide +kernel
theorem dX12_fuel_23 : decode cX12_fuel 23 = .ok (.iaload, 1) := by decide +kernel
theorem dX12_fuel_24 : decode cX12_fuel 24 = .ok (.ireturn, 1) := by decide +kernel
theorem dX12_later_0 : decode cX12_later 0 = .ok (.aload_n 0, 1) := by decide +kernel
theorem dX12_later_1 : decode cX12_later 1 = .ok (.iload_n 1, 1) := by decide +kernel
theorem dX12_later_2 : decode cX12_later 2 = .ok (.invokevirtual 453, 3) := by decide +kernel
theorem dX12_later_5 : decode cX12_later 5 = .ok (.ifCond .eq 14, 3) := by decide +kernel
theorem dX12_later_8 : decode cX12_later 8 = .ok (.aload_n 0, 1) := by decide +kernel
theorem dX12_later_9 : decode cX12_later 9 = .ok (.iload_n 2, 1) := by decide +kernel
theorem dX12_later_10 : decode cX12_later 10 = .ok (.iconst 0, 1) := by decide +kernel
theorem dX12_later_11 : decode cX12_later 11 = .ok (.bipush 40, 2) := by decide +kernel
theorem dX12_later_13 : decode cX12_later 13 = .ok (.invokevirtual 483, 3) := by decide +kernel
theorem dX12_later_16 : decode cX12_later 16 = .ok (.ifCond .ne 5, 3) := by decide +kernel
theorem dX12_later_19 : decode cX12_later 19 = .ok (.iconst (-1), 1) := by decide +kernel
theorem dX12_later_20 : decode cX12_later 20 = .ok (.ireturn, 1) := by decide +kernel
theorem dX12_later_21 : decode cX12_later 21 = .ok (.aload_n 0, 1) := by decide +kernel
theorem dX12_later_22 : decode cX12_later 22 = .ok (.iload_n 2, 1) := by decide +kernel
theorem dX12_later_23 : decode cX12_later 23 = .ok (.invokevirtual 486, 3) := by decide +kernel
theorem dX12_later_26 : decode cX12_later 26 = .ok (.aload_n 0, 1) := by decide +kernel
theorem dX12_later_27 : decode cX12_later 27 = .ok (.getfield 153, 3) := by decide +kernel
theorem dX12_later_30 : decode cX12_later 30 = .ok (.bipush 8, 2) := by decide +kernel
theorem dX12_later_32 : decode cX12_later 32 = .ok (.iload_n 1, 1) := by decide +kernel
theorem dX12_later_33 : decode cX12_later 33 = .ok (.iadd, 1) := by decide +kernel
theorem dX12_later_34 : decode cX12_later 34 = .ok (.iaload, 1) := by decide +kernel
theorem dX12_later_35 : decode cX12_later 35 = .ok (.ireturn, 1) := by decide +kernel
theorem dX12_odds_0 : decode cX12_odds 0 = .ok (.aload_n 0, 1) := by decide +kernel
theorem dX12_odds_1 : decode cX12_odds 1 = .ok (.iload_n 1, 1) := by decide +kernel
theorem dX12_odds_2 : decode cX12_odds 2 = .ok (.invokevirtual 453, 3) := by decide +kernel
theorem dX12_odds_5 : decode cX12_odds 5 = .ok (.ifCond .eq 38, 3) := by decide +kernel
theorem dX12_odds_8 : decode cX12_odds 8 = .ok (.aload_n 0, 1) := by decide +kernel
theorem dX12_odds_9 : decode cX12_odds 9 = .ok (.getfield 147, 3) := by decide +kernel
theorem dX12_odds_12 : decode cX12_odds 12 = .ok (.iload_n 1, 1) := by decide +kernel
theorem dX12_odds_13 : decode cX12_odds 13 = .ok (.iaload, 1) := by decide +kernel
theorem dX12_odds_14 : decode cX12_odds 14 = .ok (.iconst (-1), 1) := by decide +kernel
theorem dX12_odds_15 : decode cX12_odds 15 = .ok (.if_icmp .eq 28, 3) := by decide +kernel
theorem dX12_odds_18 : decode cX12_odds 18 = .ok (.aload_n 0, 1) := by decide +kernel
theorem dX12_odds_19 : decode cX12_odds 19 = .ok (.getfield 162, 3) := by decide +kernel
theorem dX12_odds_22 : decode cX12_odds 22 = .ok (.aload_n 0, 1) := by decide +kernel
theorem dX12_odds_23 : decode cX12_odds 23 = .ok (.getfield 147, 3) := by decide +kernel
theorem dX12_odds_26 : decode cX12_odds 26 = .ok (.iload_n 1, 1) := by decide +kernel
theorem dX12_odds_27 : decode cX12_odds 27 = .ok (.iaload, 1) := by decide +kernel
theorem dX12_odds_28 : decode cX12_odds 28 = .ok (.iaload, 1) := by decide +kernel
theorem dX12_odds_29 : decode cX12_odds 29 = .ok (.iconst (-1), 1) := by decide +kernel
theorem dX12_odds_30 : decode cX12_odds 30 = .ok (.if_icmp .eq 13, 3) := by decide +kernel
theorem dX12_odds_33 : decode cX12_odds 33 = .ok (.aload_n 0, 1) := by decide +kernel
theorem dX12_odds_34 : decode cX12_odds 34 = .ok (.iconst 1, 1) := by decide +kernel
theorem dX12_odds_35 : decode cX12_odds 35 = .ok (.iconst 1, 1) := by decide +kernel
theorem dX12_odds_36 : decode cX12_odds 36 = .ok (.iconst 1, 1) := by decide +kernel
theorem dX12_odds_37 : decode cX12_odds 37 = .ok (.invokevirtual 483, 3) := by decide +kernel
theorem dX12_odds_40 : decode cX12_odds 40 = .ok (.ifCond .ne 5, 3) := by decide +kernel
theorem dX12_odds_43 : decode cX12_odds 43 = .ok (.iconst (-1), 1) := by decide +kernel
theorem dX12_odds_44 : decode cX12_odds 44 = .ok (.ireturn, 1) := by decide +kernel
theorem dX12_odds_45 : decode cX12_odds 45 = .ok (.iconst 0, 1) := by decide +kernel
theorem dX12_odds_46 : decode cX12_odds 46 = .ok (.istore_n 2, 1) := by decide +kernel
theorem dX12_odds_47 : decode cX12_odds 47 = .ok (.iconst 0, 1) := by decide +kernel
theorem dX12_odds_48 : decode cX12_odds 48 = .ok (.istore_n 3, 1) := by decide +kernel
theorem dX12_odds_49 : decode cX12_odds 49 = .ok (.iload_n 3, 1) := by decide +kernel
theorem dX12_odds_50 : decode cX12_odds 50 = .ok (.iconst 3, 1) := by decide +kernel
theorem dX12_odds_51 : decode cX12_odds 51 = .ok (.if_icmp .gt 75, 3) := by decide +kernel
theorem dX12_odds_54 : decode cX12_odds 54 = .ok (.aload_n 0, 1) := by decide +kernel
theorem dX12_odds_55 : decode cX12_odds 55 = .ok (.iconst 1, 1) := by decide +kernel
theorem dX12_odds_56 : decode cX12_odds 56 = .ok (.iconst 0, 1) := by decide +kernel
theorem dX12_odds_57 : decode cX12_odds 57 = .ok (.invokevirtual 386, 3) := by decide +kernel
theorem dX12_odds_60 : decode cX12_odds 60 = .ok (.aload_n 0, 1) := by decide +kernel
theorem dX12_odds_61 : decode cX12_odds 61 = .ok (.iconst 1, 1) := by decide +kernel
theorem dX12_odds_62 : decode cX12_odds 62 = .ok (.iload_n 3, 1) := by decide +kernel
theorem dX12_odds_63 : decode cX12_odds 63 = .ok (.invokevirtual 480, 3) := by decide +kernel
theorem dX12_odds_66 : decode cX12_odds 66 = .ok (.iload_n 3, 1) := by decide +kernel
theorem dX12_odds_67 : decode cX12_odds 67 = .ok (.ifCond .ne 20, 3) := by decide +kernel
theorem dX12_odds_70 : decode cX12_odds 70 = .ok (.iconst 3, 1) := by decide +kernel
theorem dX12_odds_71 : decode cX12_odds 71 = .ok (.bipush 100, 2) := by decide +kernel
theorem dX12_odds_73 : decode cX12_odds 73 = .ok (.aload_n 0, 1) := by decide +kernel
theorem dX12_odds_74 : decode cX12_odds 74 = .ok (.getfield 75, 3) := by decide +kernel
theorem dX12_odds_77 : decode cX12_odds 77 = .ok (.aload_n 0, 1) := by decide +kernel
theorem dX12_odds_78 : decode cX12_odds 78 = .ok (.getfield 51, 3) := by decide +kernel
theorem dX12_odds_81 : decode cX12_odds 81 = .ok (.iaload, 1) := by decide +kernel
theorem dX12_odds_82 : decode cX12_odds 82 = .ok (.isub, 1) := by decide +kernel
theorem dX12_odds_83 : decode cX12_odds 83 = .ok (.imul, 1) := by decide +kernel
theorem dX12_odds_84 : decode cX12_odds 84 = .ok (.goto 12, 3) := by decide +kernel
theorem dX12_odds_87 : decode cX12_odds 87 = .ok (.aload_n 0, 1) := by decide +kernel
theorem dX12_odds_88 : decode cX12_odds 88 = .ok (.getfield 75, 3) := by decide +kernel
theorem dX12_odds_91 : decode cX12_odds 91 = .ok (.aload_n 0, 1) := by decide +kernel
theorem dX12_odds_92 : decode cX12_odds 92 = .ok (.getfield 51, 3) := by decide +kernel
theorem dX12_odds_95 : decode cX12_odds 95 = .ok (.iaload, 1) := by decide +kernel
theorem dX12_odds_96 : decode cX12_odds 96 = .ok (.istore 4, 2) := by decide +kernel
theorem dX12_odds_98 : decode cX12_odds 98 = .ok (.iload_n 2, 1) := by decide +kernel
theorem dX12_odds_99 : decode cX12_odds 99 = .ok (.aload_n 0, 1) := by decide +kernel
theorem dX12_odds_100 : decode cX12_odds 100 = .ok (.getfield 159, 3) := by decide +kernel
theorem dX12_odds_103 : decode cX12_odds 103 = .ok (.iconst 1, 1) := by decide +kernel
theorem dX12_odds_104 : decode cX12_odds 104 = .ok (.iaload, 1) := by decide +kernel
theorem dX12_odds_105 : decode cX12_odds 105 = .ok (.iload_n 1, 1) := by decide +kernel
theorem dX12_odds_106 : decode cX12_odds 106 = .ok (.invokestatic 458, 3) := by decide +kernel
theorem dX12_odds_109 : decode cX12_odds 109 = .ok (.ifCond .eq 8, 3) := by decide +kernel
theorem dX12_odds_112 : decode cX12_odds 112 = .ok (.iload 4, 2) := by decide +kernel
theorem dX12_odds_114 : decode cX12_odds 114 = .ok (.goto 4, 3) := by decide +kernel
theorem dX12_odds_117 : decode cX12_odds 117 = .ok (.iconst 0, 1) := by decide +kernel
theorem dX12_odds_118 : decode cX12_odds 118 = .ok (.iadd, 1) := by decide +kernel
theorem dX12_odds_119 : decode cX12_odds 119 = .ok (.istore_n 2, 1) := by decide +kernel
theorem dX12_odds_120 : decode cX12_odds 120 = .ok (.iinc 3 1, 3) := by decide +kernel
theorem dX12_odds_123 : decode cX12_odds 123 = .ok (.goto (-74), 3) := by decide +kernel
theorem dX12_odds_126 : decode cX12_odds 126 = .ok (.iload_n 2, 1) := by decide +kernel
theorem dX12_odds_127 : decode cX12_odds 127 = .ok (.ireturn, 1) := by decide +kernel
theorem dX12_see_0 : decode cX12_see 0 = .ok (.aload_n 0, 1) := by decide +kernel
theorem dX12_see_1 : decode cX12_see 1 = .ok (.getfield 13, 3) := by decide +kernel
theorem dX12_see_4 : decode cX12_see 4 = .ok (.istore_n 1, 1) := by decide +kernel
theorem dX12_see_5 : decode cX12_see 5 = .ok (.aload_n 0, 1) := by decide +kernel
theorem dX12_see_6 : decode cX12_see 6 = .ok (.iconst 0, 1) := by decide +kernel
theorem dX12_see_7 : decode cX12_see 7 = .ok (.putfield 13, 3) := by decide +kernel
theorem dX12_see_10 : decode cX12_see 10 = .ok (.iload_n 1, 1) := by decide +kernel
theorem dX12_see_11 : decode cX12_see 11 = .ok (.ifCond .le 19, 3) := by decide +kernel
theorem dX12_see_14 : decode cX12_see 14 = .ok (.iload_n 1, 1) := by decide +kernel
theorem dX12_see_15 : decode cX12_see 15 = .ok (.iconst 3, 1) := by decide +kernel
theorem dX12_see_16 : decode cX12_see 16 = .ok (.irem, 1) := by decide +kernel
theorem dX12_see_17 : decode cX12_see 17 = .ok (.ifCond .ne 13, 3) := by decide +kernel
theorem dX12_see_20 : decode cX12_see 20 = .ok (.iload_n 1, 1) := by decide +kernel
theorem dX12_see_21 : decode cX12_see 21 = .ok (.bipush 48, 2) := by decide +kernel
theorem dX12_see_23 : decode cX12_see 23 = .ok (.if_icmp .gt 7, 3) := by decide +kernel
theorem dX12_see_26 : decode cX12_see 26 = .ok (.iconst 1, 1) := by decide +kernel
theorem dX12_see_27 : decode cX12_see 27 = .ok (.goto 4, 3) := by decide +kernel
theorem dX12_see_30 : decode cX12_see 30 = .ok (.iconst 0, 1) := by decide +kernel
theorem dX12_see_31 : decode cX12_see 31 = .ok (.istore_n 2, 1) := by decide +kernel
theorem dX12_see_32 : decode cX12_see 32 = .ok (.iconst 0, 1) := by decide +kernel
theorem dX12_see_33 : decode cX12_see 33 = .ok (.istore_n 3, 1) := by decide +kernel
theorem dX12_see_34 : decode cX12_see 34 = .ok (.iload_n 3, 1) := by decide +kernel
theorem dX12_see_35 : decode cX12_see 35 = .ok (.iload_n 1, 1) := by decide +kernel
theorem dX12_see_36 : decode cX12_see 36 = .ok (.if_icmp .ge 58, 3) := by decide +kernel
theorem dX12_see_39 : decode cX12_see 39 = .ok (.iload_n 2, 1) := by decide +kernel
theorem dX12_see_40 : decode cX12_see 40 = .ok (.ifCond .eq 54, 3) := by decide +kernel
theorem dX12_see_43 : decode cX12_see 43 = .ok (.aload_n 0, 1) := by decide +kernel
theorem dX12_see_44 : decode cX12_see 44 = .ok (.aload_n 0, 1) := by decide +kernel
theorem dX12_see_45 : decode cX12_see 45 = .ok (.getfield 7, 3) := by decide +kernel
theorem dX12_see_48 : decode cX12_see 48 = .ok (.iload_n 3, 1) := by decide +kernel
theorem dX12_see_49 : decode cX12_see 49 = .ok (.iaload, 1) := by decide +kernel
theorem dX12_see_50 : decode cX12_see 50 = .ok (.invokevirtual 453, 3) := by decide +kernel
theorem dX12_see_53 : decode cX12_see 53 = .ok (.ifCond .eq 33, 3) := by decide +kernel
theorem dX12_see_56 : decode cX12_see 56 = .ok (.aload_n 0, 1) := by decide +kernel
theorem dX12_see_57 : decode cX12_see 57 = .ok (.getfield 7, 3) := by decide +kernel
theorem dX12_see_60 : decode cX12_see 60 = .ok (.iload_n 3, 1) := by decide +kernel
theorem dX12_see_61 : decode cX12_see 61 = .ok (.iconst 1, 1) := by decide +kernel
theorem dX12_see_62 : decode cX12_see 62 = .ok (.iadd, 1) := by decide +kernel
theorem dX12_see_63 : decode cX12_see 63 = .ok (.iaload, 1) := by decide +kernel
theorem dX12_see_64 : decode cX12_see 64 = .ok (.bipush 6, 2) := by decide +kernel
theorem dX12_see_66 : decode cX12_see 66 = .ok (.if_icmp .ge 20, 3) := by decide +kernel
theorem dX12_see_69 : decode cX12_see 69 = .ok (.aload_n 0, 1) := by decide +kernel
theorem dX12_see_70 : decode cX12_see 70 = .ok (.getfield 7, 3) := by decide +kernel
theorem dX12_see_73 : decode cX12_see 73 = .ok (.iload_n 3, 1) := by decide +kernel
theorem dX12_see_74 : decode cX12_see 74 = .ok (.iconst 2, 1) := by decide +kernel
theorem dX12_see_75 : decode cX12_see 75 = .ok (.iadd, 1) := by decide +kernel
theorem dX12_see_76 : decode cX12_see 76 = .ok (.iaload, 1) := by decide +kernel
theorem dX12_see_77 : decode cX12_see 77 = .ok (.bipush 99, 2) := by decide +kernel
theorem dX12_see_79 : decode cX12_see 79 = .ok (.if_icmp .gt 7, 3) := by decide +kernel
theorem dX12_see_82 : decode cX12_see 82 = .ok (.iconst 1, 1) := by decide +kernel
theorem dX12_see_83 : decode cX12_see 83 = .ok (.goto 4, 3) := by decide +kernel
theorem dX12_see_86 : decode cX12_see 86 = .ok (.iconst 0, 1) := by decide +kernel
theorem dX12_see_87 : decode cX12_see 87 = .ok (.istore_n 2, 1) := by decide +kernel
theorem dX12_see_88 : decode cX12_see 88 = .ok (.iinc 3 3, 3) := by decide +kernel
theorem dX12_see_91 : decode cX12_see 91 = .ok (.goto (-57), 3) := by decide +kernel
theorem dX12_see_94 : decode cX12_see 94 = .ok (.iload_n 2, 1) := by decide +kernel
theorem dX12_see_95 : decode cX12_see 95 = .ok (.ifCond .ne 9, 3) := by decide +kernel
theorem dX12_see_98 : decode cX12_see 98 = .ok (.aload_n 0, 1) := by decide +kernel
theorem dX12_see_99 : decode cX12_see 99 = .ok (.iconst 5, 1) := by decide +kernel
theorem dX12_see_100 : decode cX12_see 100 = .ok (.invokevirtual 216, 3) := by decide +kernel
theorem dX12_see_103 : decode cX12_see 103 = .ok (.ireturn, 1) := by decide +kernel
theorem dX12_see_104 : decode cX12_see 104 = .ok (.aload_n 0, 1) := by decide +kernel
theorem dX12_see_105 : decode cX12_see 105 = .ok (.iload_n 1, 1) := by decide +kernel
theorem dX12_see_106 : decode cX12_see 106 = .ok (.iconst 3, 1) := by decide +kernel
theorem dX12_see_107 : decode cX12_see 107 = .ok (.idiv, 1) := by decide +kernel
theorem dX12_see_108 : decode cX12_see 108 = .ok (.putfield 195, 3) := by decide +kernel
theorem dX12_see_111 : decode cX12_see 111 = .ok (.iconst 0, 1) := by decide +kernel
theorem dX12_see_112 : decode cX12_see 112 = .ok (.istore_n 3, 1) := by decide +kernel
theorem dX12_see_113 : decode cX12_see 113 = .ok (.iload_n 3, 1) := by decide +kernel
theorem dX12_see_114 : decode cX12_see 114 = .ok (.aload_n 0, 1) := by decide +kernel
theorem dX12_see_115 : decode cX12_see 115 = .ok (.getfield 195, 3) := by decide +kernel
theorem dX12_see_118 : decode cX12_see 118 = .ok (.if_icmp .ge 55, 3) := by decide +kernel
theorem dX12_see_121 : decode cX12_see 121 = .ok (.aload_n 0, 1) := by decide +kernel
theorem dX12_see_122 : decode cX12_see 122 = .ok (.getfield 198, 3) := by decide +kernel
theorem dX12_see_125 : decode cX12_see 125 = .ok (.iload_n 3, 1) := by decide +kernel
theorem dX12_see_126 : decode cX12_see 126 = .ok (.aload_n 0, 1) := by decide +kernel
theorem dX12_see_127 : decode cX12_see 127 = .ok (.getfield 7, 3) := by decide +kernel
theorem dX12_see_130 : decode cX12_see 130 = .ok (.iconst 3, 1) := by decide +kernel
theorem dX12_see_131 : decode cX12_see 131 = .ok (.iload_n 3, 1) := by decide +kernel
theorem dX12_see_132 : decode cX12_see 132 = .ok (.imul, 1) := by decide +kernel
theorem dX12_see_133 : decode cX12_see 133 = .ok (.iaload, 1) := by decide +kernel
theorem dX12_see_134 : decode cX12_see 134 = .ok (.iastore, 1) := by decide +kernel
theorem dX12_see_135 : decode cX12_see 135 = .ok (.aload_n 0, 1) := by decide +kernel
theorem dX12_see_136 : decode cX12_see 136 = .ok (.getfield 201, 3) := by decide +kernel
theorem dX12_see_139 : decode cX12_see 139 = .ok (.iload_n 3, 1) := by decide +kernel
theorem dX12_see_140 : decode cX12_see 140 = .ok (.aload_n 0, 1) := by decide +kernel
theorem dX12_see_141 : decode cX12_see 141 = .ok (.getfield 7, 3) := by decide +kernel
theorem dX12_see_144 : decode cX12_see 144 = .ok (.iconst 3, 1) := by decide +kernel
theorem dX12_see_145 : decode cX12_see 145 = .ok (.iload_n 3, 1) := by decide +kernel
theorem dX12_see_146 : decode cX12_see 146 = .ok (.imul, 1) := by decide +kernel
theorem dX12_see_147 : decode cX12_see 147 = .ok (.iconst 1, 1) := by decide +kernel
theorem dX12_see_148 : decode cX12_see 148 = .ok (.iadd, 1) := by decide +kernel
theorem dX12_see_149 : decode cX12_see 149 = .ok (.iaload, 1) := by decide +kernel
theorem dX12_see_150 : decode cX12_see 150 = .ok (.iastore, 1) := by decide +kernel
theorem dX12_see_151 : decode cX12_see 151 = .ok (.aload_n 0, 1) := by decide +kernel
theorem dX12_see_152 : decode cX12_see 152 = .ok (.getfield 204, 3) := by decide +kernel
theorem dX12_see_155 : decode cX12_see 155 = .ok (.iload_n 3, 1) := by decide +kernel
theorem dX12_see_156 : decode cX12_see 156 = .ok (.aload_n 0, 1) := by decide +kernel
theorem dX12_see_157 : decode cX12_see 157 = .ok (.getfield 7, 3) := by decide +kernel
theorem dX12_see_160 : decode cX12_see 160 = .ok (.iconst 3, 1) := by decide +kernel
theorem dX12_see_161 : decode cX12_see 161 = .ok (.iload_n 3, 1) := by decide +kernel
theorem dX12_see_162 : decode cX12_see 162 = .ok (.imul, 1) := by decide +kernel
theorem dX12_see_163 : decode cX12_see 163 = .ok (.iconst 2, 1) := by decide +kernel
theorem dX12_see_164 : decode cX12_see 164 = .ok (.iadd, 1) := by decide +kernel
theorem dX12_see_165 : decode cX12_see 165 = .ok (.iaload, 1) := by decide +kernel
theorem dX12_see_166 : decode cX12_see 166 = .ok (.iastore, 1) := by decide +kernel
theorem dX12_see_167 : decode cX12_see 167 = .ok (.iinc 3 1, 3) := by decide +kernel
theorem dX12_see_170 : decode cX12_see 170 = .ok (.goto (-57), 3) := by decide +kernel
theorem dX12_see_173 : decode cX12_see 173 = .ok (.aload_n 0, 1) := by decide +kernel
theorem dX12_see_174 : decode cX12_see 174 = .ok (.getfield 195, 3) := by decide +kernel
theorem dX12_see_177 : decode cX12_see 177 = .ok (.ireturn, 1) := by decide +kernel
theorem dX12_seen_0 : decode cX12_seen 0 = .ok (.iconst 0, 1) := by decide +kernel
theorem dX12_seen_1 : decode cX12_seen 1 = .ok (.istore_n 1, 1) := by decide +kernel
theorem dX12_seen_2 : decode cX12_seen 2 = .ok (.iconst 0, 1) := by decide +kernel
theorem dX12_seen_3 : decode cX12_seen 3 = .ok (.istore_n 2, 1) := by decide +kernel
theorem dX12_seen_4 : decode cX12_seen 4 = .ok (.iload_n 2, 1) := by decide +kernel
theorem dX12_seen_5 : decode cX12_seen 5 = .ok (.bipush 20, 2) := by decide +kernel
theorem dX12_seen_7 : decode cX12_seen 7 = .ok (.if_icmp .gt 83, 3) := by decide +kernel
theorem dX12_seen_10 : decode cX12_seen 10 = .ok (.iconst 1, 1) := by decide +kernel
theorem dX12_seen_11 : decode cX12_seen 11 = .ok (.istore_n 3, 1) := by decide +kernel
theorem dX12_seen_12 : decode cX12_seen 12 = .ok (.iconst 0, 1) := by decide +kernel
theorem dX12_seen_13 : decode cX12_seen 13 = .ok (.istore 4, 2) := by decide +kernel
theorem dX12_seen_15 : decode cX12_seen 15 = .ok (.iload 4, 2) := by decide +kernel
theorem dX12_seen_17 : decode cX12_seen 17 = .ok (.aload_n 0, 1) := by decide +kernel
theorem dX12_seen_18 : decode cX12_seen 18 = .ok (.getfield 195, 3) := by decide +kernel
theorem dX12_seen_21 : decode cX12_seen 21 = .ok (.if_icmp .ge 49, 3) := by decide +kernel
theorem dX12_seen_24 : decode cX12_seen 24 = .ok (.iload_n 3, 1) := by decide +kernel
theorem dX12_seen_25 : decode cX12_seen 25 = .ok (.ifCond .eq 37, 3) := by decide +kernel
theorem dX12_seen_28 : decode cX12_seen 28 = .ok (.aload_n 0, 1) := by decide +kernel
theorem dX12_seen_29 : decode cX12_seen 29 = .ok (.iconst 0, 1) := by decide +kernel
theorem dX12_seen_30 : decode cX12_seen 30 = .ok (.aload_n 0, 1) := by decide +kernel
theorem dX12_seen_31 : decode cX12_seen 31 = .ok (.getfield 198, 3) := by decide +kernel
theorem dX12_seen_34 : decode cX12_seen 34 = .ok (.iload 4, 2) := by decide +kernel
theorem dX12_seen_36 : decode cX12_seen 36 = .ok (.iaload, 1) := by decide +kernel
theorem dX12_seen_37 : decode cX12_seen 37 = .ok (.iload_n 2, 1) := by decide +kernel
theorem dX12_seen_38 : decode cX12_seen 38 = .ok (.aload_n 0, 1) := by decide +kernel
theorem dX12_seen_39 : decode cX12_seen 39 = .ok (.getfield 201, 3) := by decide +kernel
theorem dX12_seen_42 : decode cX12_seen 42 = .ok (.iload 4, 2) := by decide +kernel
theorem dX12_seen_44 : decode cX12_seen 44 = .ok (.iaload, 1) := by decide +kernel
theorem dX12_seen_45 : decode cX12_seen 45 = .ok (.invokevirtual 418, 3) := by decide +kernel
theorem dX12_seen_48 : decode cX12_seen 48 = .ok (.aload_n 0, 1) := by decide +kernel
theorem dX12_seen_49 : decode cX12_seen 49 = .ok (.getfield 204, 3) := by decide +kernel
theorem dX12_seen_52 : decode cX12_seen 52 = .ok (.iload 4, 2) := by decide +kernel
theorem dX12_seen_54 : decode cX12_seen 54 = .ok (.iaload, 1) := by decide +kernel
theorem dX12_seen_55 : decode cX12_seen 55 = .ok (.if_icmp .ne 7, 3) := by decide +kernel
theorem dX12_seen_58 : decode cX12_seen 58 = .ok (.iconst 1, 1) := by decide +kernel
theorem dX12_seen_59 : decode cX12_seen 59 = .ok (.goto 4, 3) := by decide +kernel
theorem dX12_seen_62 : decode cX12_seen 62 = .ok (.iconst 0, 1) := by decide +kernel
theorem dX12_seen_63 : decode cX12_seen 63 = .ok (.istore_n 3, 1) := by decide +kernel
theorem dX12_seen_64 : decode cX12_seen 64 = .ok (.iinc 4 1, 3) := by decide +kernel
theorem dX12_seen_67 : decode cX12_seen 67 = .ok (.goto (-52), 3) := by decide +kernel
theorem dX12_seen_70 : decode cX12_seen 70 = .ok (.iload_n 1, 1) := by decide +kernel
theorem dX12_seen_71 : decode cX12_seen 71 = .ok (.iload_n 3, 1) := by decide +kernel
theorem dX12_seen_72 : decode cX12_seen 72 = .ok (.ifCond .eq 9, 3) := by decide +kernel
theorem dX12_seen_75 : decode cX12_seen 75 = .ok (.iconst 1, 1) := by decide +kernel
theorem dX12_seen_76 : decode cX12_seen 76 = .ok (.iload_n 2, 1) := by decide +kernel
theorem dX12_seen_77 : decode cX12_seen 77 = .ok (.ishl, 1) := by decide +kernel
theorem dX12_seen_78 : decode cX12_seen 78 = .ok (.goto 4, 3) := by decide +kernel
theorem dX12_seen_81 : decode cX12_seen 81 = .ok (.iconst 0, 1) := by decide +kernel
theorem dX12_seen_82 : decode cX12_seen 82 = .ok (.ior, 1) := by decide +kernel
theorem dX12_seen_83 : decode cX12_seen 83 = .ok (.istore_n 1, 1) := by decide +kernel
theorem dX12_seen_84 : decode cX12_seen 84 = .ok (.iinc 2 1, 3) := by decide +kernel
theorem dX12_seen_87 : decode cX12_seen 87 = .ok (.goto (-83), 3) := by decide +kernel
theorem dX12_seen_90 : decode cX12_seen 90 = .ok (.iload_n 1, 1) := by decide +kernel
theorem dX12_seen_91 : decode cX12_seen 91 = .ok (.ireturn, 1) := by decide +kernel
theorem dX12_mostBy_0 : decode cX12_mostBy 0 = .ok (.iconst 0, 1) := by decide +kernel
theorem dX12_mostBy_1 : decode cX12_mostBy 1 = .ok (.istore 4, 2) := by decide +kernel
theorem dX12_mostBy_3 : decode cX12_mostBy 3 = .ok (.iload 4, 2) := by decide +kernel
theorem dX12_mostBy_5 : decode cX12_mostBy 5 = .ok (.bipush 99, 2) := by decide +kernel
theorem dX12_mostBy_7 : decode cX12_mostBy 7 = .ok (.if_icmp .gt 17, 3) := by decide +kernel
theorem dX12_mostBy_10 : decode cX12_mostBy 10 = .ok (.aload_n 0, 1) := by decide +kernel
theorem dX12_mostBy_11 : decode cX12_mostBy 11 = .ok (.getfield 207, 3) := by decide +kernel
theorem dX12_mostBy_14 : decode cX12_mostBy 14 = .ok (.iload 4, 2) := by decide +kernel
theorem dX12_mostBy_16 : decode cX12_mostBy 16 = .ok (.iconst 0, 1) := by decide +kernel
theorem dX12_mostBy_17 : decode cX12_mostBy 17 = .ok (.iastore, 1) := by decide +kernel
theorem dX12_mostBy_18 : decode cX12_mostBy 18 = .ok (.iinc 4 1, 3) := by decide +kernel
theorem dX12_mostBy_21 : decode cX12_mostBy 21 = .ok (.goto (-18), 3) := by decide +kernel
theorem dX12_mostBy_24 : decode cX12_mostBy 24 = .ok (.iconst 0, 1) := by decide +kernel
theorem dX12_mostBy_25 : decode cX12_mostBy 25 = .ok (.istore 4, 2) := by decide +kernel
theorem dX12_mostBy_27 : decode cX12_mostBy 27 = .ok (.iconst 0, 1) := by decide +kernel
theorem dX12_mostBy_28 : decode cX12_mostBy 28 = .ok (.istore 5, 2) := by decide +kernel
theorem dX12_mostBy_30 : decode cX12_mostBy 30 = .ok (.iload 5, 2) := by decide +kernel
theorem dX12_mostBy_32 : decode cX12_mostBy 32 = .ok (.bipush 20, 2) := by decide +kernel
theorem dX12_mostBy_34 : decode cX12_mostBy 34 = .ok (.if_icmp .gt 69, 3) := by decide +kernel
theorem dX12_mostBy_37 : decode cX12_mostBy 37 = .ok (.iload_n 1, 1) := by decide +kernel
theorem dX12_mostBy_38 : decode cX12_mostBy 38 = .ok (.iload 5, 2) := by decide +kernel
theorem dX12_mostBy_40 : decode cX12_mostBy 40 = .ok (.invokestatic 458, 3) := by decide +kernel
theorem dX12_mostBy_43 : decode cX12_mostBy 43 = .ok (.ifCond .ne 6, 3) := by decide +kernel
theorem dX12_mostBy_46 : decode cX12_mostBy 46 = .ok (.goto 51, 3) := by decide +kernel
theorem dX12_mostBy_49 : decode cX12_mostBy 49 = .ok (.aload_n 0, 1) := by decide +kernel
theorem dX12_mostBy_50 : decode cX12_mostBy 50 = .ok (.iconst 0, 1) := by decide +kernel
theorem dX12_mostBy_51 : decode cX12_mostBy 51 = .ok (.iload_n 2, 1) := by decide +kernel
theorem dX12_mostBy_52 : decode cX12_mostBy 52 = .ok (.iload 5, 2) := by decide +kernel
theorem dX12_mostBy_54 : decode cX12_mostBy 54 = .ok (.iload_n 3, 1) := by decide +kernel
theorem dX12_mostBy_55 : decode cX12_mostBy 55 = .ok (.invokevirtual 418, 3) := by decide +kernel
theorem dX12_mostBy_58 : decode cX12_mostBy 58 = .ok (.istore 6, 2) := by decide +kernel
theorem dX12_mostBy_60 : decode cX12_mostBy 60 = .ok (.aload_n 0, 1) := by decide +kernel
theorem dX12_mostBy_61 : decode cX12_mostBy 61 = .ok (.getfield 207, 3) := by decide +kernel
theorem dX12_mostBy_64 : decode cX12_mostBy 64 = .ok (.iload 6, 2) := by decide +kernel
theorem dX12_mostBy_66 : decode cX12_mostBy 66 = .ok (.dup2, 1) := by decide +kernel
theorem dX12_mostBy_67 : decode cX12_mostBy 67 = .ok (.iaload, 1) := by decide +kernel
theorem dX12_mostBy_68 : decode cX12_mostBy 68 = .ok (.iconst 1, 1) := by decide +kernel
theorem dX12_mostBy_69 : decode cX12_mostBy 69 = .ok (.iadd, 1) := by decide +kernel
theorem dX12_mostBy_70 : decode cX12_mostBy 70 = .ok (.iastore, 1) := by decide +kernel
theorem dX12_mostBy_71 : decode cX12_mostBy 71 = .ok (.aload_n 0, 1) := by decide +kernel
theorem dX12_mostBy_72 : decode cX12_mostBy 72 = .ok (.getfield 207, 3) := by decide +kernel
theorem dX12_mostBy_75 : decode cX12_mostBy 75 = .ok (.iload 6, 2) := by decide +kernel
theorem dX12_mostBy_77 : decode cX12_mostBy 77 = .ok (.iaload, 1) := by decide +kernel
theorem dX12_mostBy_78 : decode cX12_mostBy 78 = .ok (.iload 4, 2) := by decide +kernel
theorem dX12_mostBy_80 : decode cX12_mostBy 80 = .ok (.if_icmp .le 13, 3) := by decide +kernel
theorem dX12_mostBy_83 : decode cX12_mostBy 83 = .ok (.aload_n 0, 1) := by decide +kernel
theorem dX12_mostBy_84 : decode cX12_mostBy 84 = .ok (.getfield 207, 3) := by decide +kernel
theorem dX12_mostBy_87 : decode cX12_mostBy 87 = .ok (.iload 6, 2) := by decide +kernel
theorem dX12_mostBy_89 : decode cX12_mostBy 89 = .ok (.iaload, 1) := by decide +kernel
theorem dX12_mostBy_90 : decode cX12_mostBy 90 = .ok (.goto 5, 3) := by decide +kernel
theorem dX12_mostBy_93 : decode cX12_mostBy 93 = .ok (.iload 4, 2) := by decide +kernel
theorem dX12_mostBy_95 : decode cX12_mostBy 95 = .ok (.istore 4, 2) := by decide +kernel
theorem dX12_mostBy_97 : decode cX12_mostBy 97 = .ok (.iinc 5 1, 3) := by decide +kernel
theorem dX12_mostBy_100 : decode cX12_mostBy 100 = .ok (.goto (-70), 3) := by decide +kernel
theorem dX12_mostBy_103 : decode cX12_mostBy 103 = .ok (.iload 4, 2) := by decide +kernel
theorem dX12_mostBy_105 : decode cX12_mostBy 105 = .ok (.ireturn, 1) := by decide +kernel
theorem dX12_tells_0 : decode cX12_tells 0 = .ok (.aload_n 0, 1) := by decide +kernel
theorem dX12_tells_1 : decode cX12_tells 1 = .ok (.invokevirtual 489, 3) := by decide +kernel
theorem dX12_tells_4 : decode cX12_tells 4 = .ok (.istore_n 2, 1) := by decide +kernel
theorem dX12_tells_5 : decode cX12_tells 5 = .ok (.iload_n 2, 1) := by decide +kernel
theorem dX12_tells_6 : decode cX12_tells 6 = .ok (.ifCond .eq 12, 3) := by decide +kernel
theorem dX12_tells_9 : decode cX12_tells 9 = .ok (.iload_n 1, 1) := by decide +kernel
theorem dX12_tells_10 : decode cX12_tells 10 = .ok (.iconst 0, 1) := by decide +kernel
theorem dX12_tells_11 : decode cX12_tells 11 = .ok (.iconst 2, 1) := by decide +kernel
theorem dX12_tells_12 : decode cX12_tells 12 = .ok (.invokestatic 296, 3) := by decide +kernel
theorem dX12_tells_15 : decode cX12_tells 15 = .ok (.ifCond .ne 5, 3) := by decide +kernel
theorem dX12_tells_18 : decode cX12_tells 18 = .ok (.iconst (-1), 1) := by decide +kernel
theorem dX12_tells_19 : decode cX12_tells 19 = .ok (.ireturn, 1) := by decide +kernel
theorem dX12_tells_20 : decode cX12_tells 20 = .ok (.iconst (-1), 1) := by decide +kernel
theorem dX12_tells_21 : decode cX12_tells 21 = .ok (.istore_n 3, 1) := by decide +kernel
theorem dX12_tells_22 : decode cX12_tells 22 = .ok (.ldc_w 493, 3) := by decide +kernel
theorem dX12_tells_25 : decode cX12_tells 25 = .ok (.istore 4, 2) := by decide +kernel
theorem dX12_tells_27 : decode cX12_tells 27 = .ok (.iconst 0, 1) := by decide +kernel
theorem dX12_tells_28 : decode cX12_tells 28 = .ok (.istore 5, 2) := by decide +kernel
theorem dX12_tells_30 : decode cX12_tells 30 = .ok (.iload 5, 2) := by decide +kernel
theorem dX12_tells_32 : decode cX12_tells 32 = .ok (.bipush 6, 2) := by decide +kernel
theorem dX12_tells_34 : decode cX12_tells 34 = .ok (.aload_n 0, 1) := by decide +kernel
theorem dX12_tells_35 : decode cX12_tells 35 = .ok (.getfield 54, 3) := by decide +kernel
theorem dX12_tells_38 : decode cX12_tells 38 = .ok (.aload_n 0, 1) := by decide +kernel
theorem dX12_tells_39 : decode cX12_tells 39 = .ok (.getfield 51, 3) := by decide +kernel
theorem dX12_tells_42 : decode cX12_tells 42 = .ok (.iaload, 1) := by decide +kernel
theorem dX12_tells_43 : decode cX12_tells 43 = .ok (.imul, 1) := by decide +kernel
theorem dX12_tells_44 : decode cX12_tells 44 = .ok (.if_icmp .ge 43, 3) := by decide +kernel
theorem dX12_tells_47 : decode cX12_tells 47 = .ok (.aload_n 0, 1) := by decide +kernel
theorem dX12_tells_48 : decode cX12_tells 48 = .ok (.iload_n 2, 1) := by decide +kernel
theorem dX12_tells_49 : decode cX12_tells 49 = .ok (.iload 5, 2) := by decide +kernel
theorem dX12_tells_51 : decode cX12_tells 51 = .ok (.bipush 6, 2) := by decide +kernel
theorem dX12_tells_53 : decode cX12_tells 53 = .ok (.idiv, 1) := by decide +kernel
theorem dX12_tells_54 : decode cX12_tells 54 = .ok (.iload 5, 2) := by decide +kernel
theorem dX12_tells_56 : decode cX12_tells 56 = .ok (.bipush 6, 2) := by decide +kernel
theorem dX12_tells_58 : decode cX12_tells 58 = .ok (.irem, 1) := by decide +kernel
theorem dX12_tells_59 : decode cX12_tells 59 = .ok (.invokevirtual 494, 3) := by decide +kernel
theorem dX12_tells_62 : decode cX12_tells 62 = .ok (.istore 6, 2) := by decide +kernel
theorem dX12_tells_64 : decode cX12_tells 64 = .ok (.iload 6, 2) := by decide +kernel
theorem dX12_tells_66 : decode cX12_tells 66 = .ok (.iload 4, 2) := by decide +kernel
theorem dX12_tells_68 : decode cX12_tells 68 = .ok (.if_icmp .lt 6, 3) := by decide +kernel
theorem dX12_tells_71 : decode cX12_tells 71 = .ok (.goto 10, 3) := by decide +kernel
theorem dX12_tells_74 : decode cX12_tells 74 = .ok (.iload 6, 2) := by decide +kernel
theorem dX12_tells_76 : decode cX12_tells 76 = .ok (.istore 4, 2) := by decide +kernel
theorem dX12_tells_78 : decode cX12_tells 78 = .ok (.iload 5, 2) := by decide +kernel
theorem dX12_tells_80 : decode cX12_tells 80 = .ok (.istore_n 3, 1) := by decide +kernel
theorem dX12_tells_81 : decode cX12_tells 81 = .ok (.iinc 5 1, 3) := by decide +kernel
theorem dX12_tells_84 : decode cX12_tells 84 = .ok (.goto (-54), 3) := by decide +kernel
theorem dX12_tells_87 : decode cX12_tells 87 = .ok (.iload_n 3, 1) := by decide +kernel
theorem dX12_tells_88 : decode cX12_tells 88 = .ok (.iconst (-1), 1) := by decide +kernel
theorem dX12_tells_89 : decode cX12_tells 89 = .ok (.if_icmp .ne 7, 3) := by decide +kernel
theorem dX12_tells_92 : decode cX12_tells 92 = .ok (.iconst (-1), 1) := by decide +kernel
theorem dX12_tells_93 : decode cX12_tells 93 = .ok (.goto 28, 3) := by decide +kernel
theorem dX12_tells_96 : decode cX12_tells 96 = .ok (.iload_n 1, 1) := by decide +kernel
theorem dX12_tells_97 : decode cX12_tells 97 = .ok (.ifCond .ne 10, 3) := by decide +kernel
theorem dX12_tells_100 : decode cX12_tells 100 = .ok (.iload_n 3, 1) := by decide +kernel
theorem dX12_tells_101 : decode cX12_tells 101 = .ok (.bipush 6, 2) := by decide +kernel
theorem dX12_tells_103 : decode cX12_tells 103 = .ok (.idiv, 1) := by decide +kernel
theorem dX12_tells_104 : decode cX12_tells 104 = .ok (.goto 17, 3) := by decide +kernel
theorem dX12_tells_107 : decode cX12_tells 107 = .ok (.iload_n 1, 1) := by decide +kernel
theorem dX12_tells_108 : decode cX12_tells 108 = .ok (.iconst 1, 1) := by decide +kernel
theorem dX12_tells_109 : decode cX12_tells 109 = .ok (.if_icmp .ne 10, 3) := by decide +kernel
theorem dX12_tells_112 : decode cX12_tells 112 = .ok (.iload_n 3, 1) := by decide +kernel
theorem dX12_tells_113 : decode cX12_tells 113 = .ok (.bipush 6, 2) := by decide +kernel
theorem dX12_tells_115 : decode cX12_tells 115 = .ok (.irem, 1) := by decide +kernel
theorem dX12_tells_116 : decode cX12_tells 116 = .ok (.goto 5, 3) := by decide +kernel
theorem dX12_tells_119 : decode cX12_tells 119 = .ok (.iload 4, 2) := by decide +kernel
theorem dX12_tells_121 : decode cX12_tells 121 = .ok (.ireturn, 1) := by decide +kernel
theorem dX12_weeks_0 : decode cX12_weeks 0 = .ok (.aload_n 0, 1) := by decide +kernel
theorem dX12_weeks_1 : decode cX12_weeks 1 = .ok (.iload_n 1, 1) := by decide +kernel
theorem dX12_weeks_2 : decode cX12_weeks 2 = .ok (.iconst 1, 1) := by decide +kernel
theorem dX12_weeks_3 : decode cX12_weeks 3 = .ok (.bipush 40, 2) := by decide +kernel
theorem dX12_weeks_5 : decode cX12_weeks 5 = .ok (.invokevirtual 483, 3) := by decide +kernel
theorem dX12_weeks_8 : decode cX12_weeks 8 = .ok (.ifCond .ne 9, 3) := by decide +kernel
theorem dX12_weeks_11 : decode cX12_weeks 11 = .ok (.aload_n 0, 1) := by decide +kernel
theorem dX12_weeks_12 : decode cX12_weeks 12 = .ok (.iconst 2, 1) := by decide +kernel
theorem dX12_weeks_13 : decode cX12_weeks 13 = .ok (.invokevirtual 216, 3) := by decide +kernel
theorem dX12_weeks_16 : decode cX12_weeks 16 = .ok (.ireturn, 1) := by decide +kernel
theorem dX12_weeks_17 : decode cX12_weeks 17 = .ok (.aload_n 0, 1) := by decide +kernel
theorem dX12_weeks_18 : decode cX12_weeks 18 = .ok (.invokevirtual 497, 3) := by decide +kernel
theorem dX12_weeks_21 : decode cX12_weeks 21 = .ok (.iconst 0, 1) := by decide +kernel
theorem dX12_weeks_22 : decode cX12_weeks 22 = .ok (.istore_n 2, 1) := by decide +kernel
theorem dX12_weeks_23 : decode cX12_weeks 23 = .ok (.iconst 0, 1) := by decide +kernel
theorem dX12_weeks_24 : decode cX12_weeks 24 = .ok (.istore_n 3, 1) := by decide +kernel
theorem dX12_weeks_25 : decode cX12_weeks 25 = .ok (.iload_n 3, 1) := by decide +kernel
theorem dX12_weeks_26 : decode cX12_weeks 26 = .ok (.iload_n 1, 1) := by decide +kernel
theorem dX12_weeks_27 : decode cX12_weeks 27 = .ok (.if_icmp .ge 25, 3) := by decide +kernel
theorem dX12_weeks_30 : decode cX12_weeks 30 = .ok (.aload_n 0, 1) := by decide +kernel
theorem dX12_weeks_31 : decode cX12_weeks 31 = .ok (.iconst 0, 1) := by decide +kernel
theorem dX12_weeks_32 : decode cX12_weeks 32 = .ok (.iconst 0, 1) := by decide +kernel
theorem dX12_weeks_33 : decode cX12_weeks 33 = .ok (.invokevirtual 480, 3) := by decide +kernel
theorem dX12_weeks_36 : decode cX12_weeks 36 = .ok (.iload_n 2, 1) := by decide +kernel
theorem dX12_weeks_37 : decode cX12_weeks 37 = .ok (.aload_n 0, 1) := by decide +kernel
theorem dX12_weeks_38 : decode cX12_weeks 38 = .ok (.getfield 186, 3) := by decide +kernel
theorem dX12_weeks_41 : decode cX12_weeks 41 = .ok (.invokestatic 450, 3) := by decide +kernel
theorem dX12_weeks_44 : decode cX12_weeks 44 = .ok (.iadd, 1) := by decide +kernel
theorem dX12_weeks_45 : decode cX12_weeks 45 = .ok (.istore_n 2, 1) := by decide +kernel
theorem dX12_weeks_46 : decode cX12_weeks 46 = .ok (.iinc 3 1, 3) := by decide +kernel
theorem dX12_weeks_49 : decode cX12_weeks 49 = .ok (.goto (-24), 3) := by decide +kernel
theorem dX12_weeks_52 : decode cX12_weeks 52 = .ok (.iload_n 2, 1) := by decide +kernel
theorem dX12_weeks_53 : decode cX12_weeks 53 = .ok (.ireturn, 1) := by decide +kernel
theorem dX12_draw_0 : decode cX12_draw 0 = .ok (.aload_n 0, 1) := by decide +kernel
theorem dX12_draw_1 : decode cX12_draw 1 = .ok (.ldc2_w 500, 3) := by decide +kernel
theorem dX12_draw_4 : decode cX12_draw 4 = .ok (.aload_n 0, 1) := by decide +kernel
theorem dX12_draw_5 : decode cX12_draw 5 = .ok (.getfield 177, 3) := by decide +kernel
theorem dX12_draw_8 : decode cX12_draw 8 = .ok (.lmul, 1) := by decide +kernel
theorem dX12_draw_9 : decode cX12_draw 9 = .ok (.ldc2_w 502, 3) := by decide +kernel
theorem dX12_draw_12 : decode cX12_draw 12 = .ok (.ladd, 1) := by decide +kernel
theorem dX12_draw_13 : decode cX12_draw 13 = .ok (.ldc2_w 504, 3) := by decide +kernel
theorem dX12_draw_16 : decode cX12_draw 16 = .ok (.lrem, 1) := by decide +kernel
theorem dX12_draw_17 : decode cX12_draw 17 = .ok (.putfield 177, 3) := by decide +kernel
theorem dX12_draw_20 : decode cX12_draw 20 = .ok (.aload_n 0, 1) := by decide +kernel
theorem dX12_draw_21 : decode cX12_draw 21 = .ok (.getfield 177, 3) := by decide +kernel
theorem dX12_draw_24 : decode cX12_draw 24 = .ok (.ldc2_w 506, 3) := by decide +kernel
theorem dX12_draw_27 : decode cX12_draw 27 = .ok (.ldiv, 1) := by decide +kernel
theorem dX12_draw_28 : decode cX12_draw 28 = .ok (.iload_n 1, 1) := by decide +kernel
theorem dX12_draw_29 : decode cX12_draw 29 = .ok (.i2l, 1) := by decide +kernel
theorem dX12_draw_30 : decode cX12_draw 30 = .ok (.lrem, 1) := by decide +kernel
theorem dX12_draw_31 : decode cX12_draw 31 = .ok (.l2i, 1) := by decide +kernel
theorem dX12_draw_32 : decode cX12_draw 32 = .ok (.ireturn, 1) := by decide +kernel
theorem dX12_chance_0 : decode cX12_chance 0 = .ok (.aload_n 0, 1) := by decide +kernel
theorem dX12_chance_1 : decode cX12_chance 1 = .ok (.iload_n 1, 1) := by decide +kernel
theorem dX12_chance_2 : decode cX12_chance 2 = .ok (.iconst 1, 1) := by decide +kernel
theorem dX12_chance_3 : decode cX12_chance 3 = .ok (.bipush 40, 2) := by decide +kernel
theorem dX12_chance_5 : decode cX12_chance 5 = .ok (.invokevirtual 483, 3) := by decide +kernel
theorem dX12_chance_8 : decode cX12_chance 8 = .ok (.ifCond .ne 9, 3) := by decide +kernel
theorem dX12_chance_11 : decode cX12_chance 11 = .ok (.aload_n 0, 1) := by decide +kernel
theorem dX12_chance_12 : decode cX12_chance 12 = .ok (.iconst 2, 1) := by decide +kernel
theorem dX12_chance_13 : decode cX12_chance 13 = .ok (.invokevirtual 216, 3) := by decide +kernel
theorem dX12_chance_16 : decode cX12_chance 16 = .ok (.ireturn, 1) := by decide +kernel
theorem dX12_chance_17 : decode cX12_chance 17 = .ok (.aload_n 0, 1) := by decide +kernel
theorem dX12_chance_18 : decode cX12_chance 18 = .ok (.invokevirtual 497, 3) := by decide +kernel
theorem dX12_chance_21 : decode cX12_chance 21 = .ok (.iconst 0, 1) := by decide +kernel
theorem dX12_chance_22 : decode cX12_chance 22 = .ok (.istore_n 2, 1) := by decide +kernel
theorem dX12_chance_23 : decode cX12_chance 23 = .ok (.iconst 0, 1) := by decide +kernel
theorem dX12_chance_24 : decode cX12_chance 24 = .ok (.istore_n 3, 1) := by decide +kernel
theorem dX12_chance_25 : decode cX12_chance 25 = .ok (.iload_n 3, 1) := by decide +kernel
theorem dX12_chance_26 : decode cX12_chance 26 = .ok (.iload_n 1, 1) := by decide +kernel
theorem dX12_chance_27 : decode cX12_chance 27 = .ok (.if_icmp .ge 68, 3) := by decide +kernel
theorem dX12_chance_30 : decode cX12_chance 30 = .ok (.aload_n 0, 1) := by decide +kernel
theorem dX12_chance_31 : decode cX12_chance 31 = .ok (.bipush 100, 2) := by decide +kernel
theorem dX12_chance_33 : decode cX12_chance 33 = .ok (.invokevirtual 508, 3) := by decide +kernel
theorem dX12_chance_36 : decode cX12_chance 36 = .ok (.aload_n 0, 1) := by decide +kernel
theorem dX12_chance_37 : decode cX12_chance 37 = .ok (.getfield 75, 3) := by decide +kernel
theorem dX12_chance_40 : decode cX12_chance 40 = .ok (.aload_n 0, 1) := by decide +kernel
theorem dX12_chance_41 : decode cX12_chance 41 = .ok (.getfield 51, 3) := by decide +kernel
theorem dX12_chance_44 : decode cX12_chance 44 = .ok (.iaload, 1) := by decide +kernel
theorem dX12_chance_45 : decode cX12_chance 45 = .ok (.if_icmp .ge 7, 3) := by decide +kernel
theorem dX12_chance_48 : decode cX12_chance 48 = .ok (.iconst 1, 1) := by decide +kernel
theorem dX12_chance_49 : decode cX12_chance 49 = .ok (.goto 4, 3) := by decide +kernel
theorem dX12_chance_52 : decode cX12_chance 52 = .ok (.iconst 0, 1) := by decide +kernel
theorem dX12_chance_53 : decode cX12_chance 53 = .ok (.istore 4, 2) := by decide +kernel
theorem dX12_chance_55 : decode cX12_chance 55 = .ok (.iload_n 2, 1) := by decide +kernel
theorem dX12_chance_56 : decode cX12_chance 56 = .ok (.iload 4, 2) := by decide +kernel
theorem dX12_chance_58 : decode cX12_chance 58 = .ok (.ifCond .eq 7, 3) := by decide +kernel
theorem dX12_chance_61 : decode cX12_chance 61 = .ok (.iconst 1, 1) := by decide +kernel
theorem dX12_chance_62 : decode cX12_chance 62 = .ok (.goto 4, 3) := by decide +kernel
theorem dX12_chance_65 : decode cX12_chance 65 = .ok (.iconst 0, 1) := by decide +kernel
theorem dX12_chance_66 : decode cX12_chance 66 = .ok (.iadd, 1) := by decide +kernel
theorem dX12_chance_67 : decode cX12_chance 67 = .ok (.istore_n 2, 1) := by decide +kernel
theorem dX12_chance_68 : decode cX12_chance 68 = .ok (.aload_n 0, 1) := by decide +kernel
theorem dX12_chance_69 : decode cX12_chance 69 = .ok (.iconst 0, 1) := by decide +kernel
theorem dX12_chance_70 : decode cX12_chance 70 = .ok (.iload 4, 2) := by decide +kernel
theorem dX12_chance_72 : decode cX12_chance 72 = .ok (.ifCond .eq 13, 3) := by decide +kernel
theorem dX12_chance_75 : decode cX12_chance 75 = .ok (.iconst 1, 1) := by decide +kernel
theorem dX12_chance_76 : decode cX12_chance 76 = .ok (.aload_n 0, 1) := by decide +kernel
theorem dX12_chance_77 : decode cX12_chance 77 = .ok (.iconst 3, 1) := by decide +kernel
theorem dX12_chance_78 : decode cX12_chance 78 = .ok (.invokevirtual 508, 3) := by decide +kernel
theorem dX12_chance_81 : decode cX12_chance 81 = .ok (.iadd, 1) := by decide +kernel
theorem dX12_chance_82 : decode cX12_chance 82 = .ok (.goto 4, 3) := by decide +kernel
theorem dX12_chance_85 : decode cX12_chance 85 = .ok (.iconst 0, 1) := by decide +kernel
theorem dX12_chance_86 : decode cX12_chance 86 = .ok (.invokevirtual 480, 3) := by decide +kernel
theorem dX12_chance_89 : decode cX12_chance 89 = .ok (.iinc 3 1, 3) := by decide +kernel
theorem dX12_chance_92 : decode cX12_chance 92 = .ok (.goto (-67), 3) := by decide +kernel
theorem dX12_chance_95 : decode cX12_chance 95 = .ok (.iload_n 2, 1) := by decide +kernel
theorem dX12_chance_96 : decode cX12_chance 96 = .ok (.ireturn, 1) := by decide +kernel
theorem dX12_set_0 : decode cX12_set 0 = .ok (.aload_n 0, 1) := by decide +kernel
theorem dX12_set_1 : decode cX12_set 1 = .ok (.iload_n 1, 1) := by decide +kernel
theorem dX12_set_2 : decode cX12_set 2 = .ok (.invokevirtual 453, 3) := by decide +kernel
theorem dX12_set_5 : decode cX12_set 5 = .ok (.ifCond .eq 33, 3) := by decide +kernel
theorem dX12_set_8 : decode cX12_set 8 = .ok (.aload_n 0, 1) := by decide +kernel
theorem dX12_set_9 : decode cX12_set 9 = .ok (.getfield 153, 3) := by decide +kernel
theorem dX12_set_12 : decode cX12_set 12 = .ok (.iload_n 1, 1) := by decide +kernel
theorem dX12_set_13 : decode cX12_set 13 = .ok (.iaload, 1) := by decide +kernel
theorem dX12_set_14 : decode cX12_set 14 = .ok (.iconst (-1), 1) := by decide +kernel
theorem dX12_set_15 : decode cX12_set 15 = .ok (.if_icmp .ne 23, 3) := by decide +kernel
theorem dX12_set_18 : decode cX12_set 18 = .ok (.aload_n 0, 1) := by decide +kernel
theorem dX12_set_19 : decode cX12_set 19 = .ok (.iload_n 2, 1) := by decide +kernel
theorem dX12_set_20 : decode cX12_set 20 = .ok (.iload_n 3, 1) := by decide +kernel
theorem dX12_set_21 : decode cX12_set 21 = .ok (.invokevirtual 462, 3) := by decide +kernel
theorem dX12_set_24 : decode cX12_set 24 = .ok (.ifCond .eq 14, 3) := by decide +kernel
theorem dX12_set_27 : decode cX12_set 27 = .ok (.aload_n 0, 1) := by decide +kernel
theorem dX12_set_28 : decode cX12_set 28 = .ok (.iconst 0, 1) := by decide +kernel
theorem dX12_set_29 : decode cX12_set 29 = .ok (.iload_n 2, 1) := by decide +kernel
theorem dX12_set_30 : decode cX12_set 30 = .ok (.iload_n 3, 1) := by decide +kernel
theorem dX12_set_31 : decode cX12_set 31 = .ok (.invokevirtual 425, 3) := by decide +kernel
theorem dX12_set_34 : decode cX12_set 34 = .ok (.iconst (-1), 1) := by decide +kernel
theorem dX12_set_35 : decode cX12_set 35 = .ok (.if_icmp .eq 17, 3) := by decide +kernel
theorem dX12_set_38 : decode cX12_set 38 = .ok (.aload_n 0, 1) := by decide +kernel
theorem dX12_set_39 : decode cX12_set 39 = .ok (.iconst 3, 1) := by decide +kernel
theorem dX12_set_40 : decode cX12_set 40 = .ok (.invokevirtual 216, 3) := by decide +kernel
theorem dX12_set_43 : decode cX12_set 43 = .ok (.ifCond .lt 7, 3) := by decide +kernel
theorem dX12_set_46 : decode cX12_set 46 = .ok (.iconst 1, 1) := by decide +kernel
theorem dX12_set_47 : decode cX12_set 47 = .ok (.goto 4, 3) := by decide +kernel
theorem dX12_set_50 : decode cX12_set 50 = .ok (.iconst 0, 1) := by decide +kernel
theorem dX12_set_51 : decode cX12_set 51 = .ok (.ireturn, 1) := by decide +kernel
theorem dX12_set_52 : decode cX12_set 52 = .ok (.aload_n 0, 1) := by decide +kernel
theorem dX12_set_53 : decode cX12_set 53 = .ok (.invokevirtual 497, 3) := by decide +kernel
theorem dX12_set_56 : decode cX12_set 56 = .ok (.aload_n 0, 1) := by decide +kernel
theorem dX12_set_57 : decode cX12_set 57 = .ok (.getfield 147, 3) := by decide +kernel
theorem dX12_set_60 : decode cX12_set 60 = .ok (.iload_n 1, 1) := by decide +kernel
theorem dX12_set_61 : decode cX12_set 61 = .ok (.iload_n 2, 1) := by decide +kernel
theorem dX12_set_62 : decode cX12_set 62 = .ok (.iastore, 1) := by decide +kernel
theorem dX12_set_63 : decode cX12_set 63 = .ok (.aload_n 0, 1) := by decide +kernel
theorem dX12_set_64 : decode cX12_set 64 = .ok (.getfield 150, 3) := by decide +kernel
theorem dX12_set_67 : decode cX12_set 67 = .ok (.iload_n 1, 1) := by decide +kernel
theorem dX12_set_68 : decode cX12_set 68 = .ok (.iload_n 3, 1) := by decide +kernel
theorem dX12_set_69 : decode cX12_set 69 = .ok (.iastore, 1) := by decide +kernel
theorem dX12_set_70 : decode cX12_set 70 = .ok (.iconst 1, 1) := by decide +kernel
theorem dX12_set_71 : decode cX12_set 71 = .ok (.ireturn, 1) := by decide +kernel
theorem dX12_take_0 : decode cX12_take 0 = .ok (.aload_n 0, 1) := by decide +kernel
theorem dX12_take_1 : decode cX12_take 1 = .ok (.iload_n 1, 1) := by decide +kernel
theorem dX12_take_2 : decode cX12_take 2 = .ok (.invokevirtual 453, 3) := by decide +kernel
theorem dX12_take_5 : decode cX12_take 5 = .ok (.ifCond .eq 13, 3) := by decide +kernel
theorem dX12_take_8 : decode cX12_take 8 = .ok (.aload_n 0, 1) := by decide +kernel
theorem dX12_take_9 : decode cX12_take 9 = .ok (.getfield 147, 3) := by decide +kernel
theorem dX12_take_12 : decode cX12_take 12 = .ok (.iload_n 1, 1) := by decide +kernel
theorem dX12_take_13 : decode cX12_take 13 = .ok (.iaload, 1) := by decide +kernel
theorem dX12_take_14 : decode cX12_take 14 = .ok (.iconst (-1), 1) := by decide +kernel
theorem dX12_take_15 : decode cX12_take 15 = .ok (.if_icmp .ne 17, 3) := by decide +kernel
theorem dX12_take_18 : decode cX12_take 18 = .ok (.aload_n 0, 1) := by decide +kernel
theorem dX12_take_19 : decode cX12_take 19 = .ok (.iconst 3, 1) := by decide +kernel
theorem dX12_take_20 : decode cX12_take 20 = .ok (.invokevirtual 216, 3) := by decide +kernel
theorem dX12_take_23 : decode cX12_take 23 = .ok (.ifCond .lt 7, 3) := by decide +kernel
theorem dX12_take_26 : decode cX12_take 26 = .ok (.iconst 1, 1) := by decide +kernel
theorem dX12_take_27 : decode cX12_take 27 = .ok (.goto 4, 3) := by decide +kernel
theorem dX12_take_30 : decode cX12_take 30 = .ok (.iconst 0, 1) := by decide +kernel
theorem dX12_take_31 : decode cX12_take 31 = .ok (.ireturn, 1) := by decide +kernel
theorem dX12_take_32 : decode cX12_take 32 = .ok (.aload_n 0, 1) := by decide +kernel
theorem dX12_take_33 : decode cX12_take 33 = .ok (.invokevirtual 497, 3) := by decide +kernel
theorem dX12_take_36 : decode cX12_take 36 = .ok (.aload_n 0, 1) := by decide +kernel
theorem dX12_take_37 : decode cX12_take 37 = .ok (.getfield 147, 3) := by decide +kernel
theorem dX12_take_40 : decode cX12_take 40 = .ok (.iload_n 1, 1) := by decide +kernel
theorem dX12_take_41 : decode cX12_take 41 = .ok (.iconst (-1), 1) := by decide +kernel
theorem dX12_take_42 : decode cX12_take 42 = .ok (.iastore, 1) := by decide +kernel
theorem dX12_take_43 : decode cX12_take 43 = .ok (.aload_n 0, 1) := by decide +kernel
theorem dX12_take_44 : decode cX12_take 44 = .ok (.getfield 150, 3) := by decide +kernel
theorem dX12_take_47 : decode cX12_take 47 = .ok (.iload_n 1, 1) := by decide +kernel
theorem dX12_take_48 : decode cX12_take 48 = .ok (.iconst (-1), 1) := by decide +kernel
theorem dX12_take_49 : decode cX12_take 49 = .ok (.iastore, 1) := by decide +kernel
theorem dX12_take_50 : decode cX12_take 50 = .ok (.iconst 1, 1) := by decide +kernel
theorem dX12_take_51 : decode cX12_take 51 = .ok (.ireturn, 1) := by decide +kernel
theorem dX12_light_0 : decode cX12_light 0 = .ok (.aload_n 0, 1) := by decide +kernel
theorem dX12_light_1 : decode cX12_light 1 = .ok (.iload_n 1, 1) := by decide +kernel
theorem dX12_light_2 : decode cX12_light 2 = .ok (.invokevirtual 447, 3) := by decide +kernel
theorem dX12_light_5 : decode cX12_light 5 = .ok (.ifCond .eq 23, 3) := by decide +kernel
theorem dX12_light_8 : decode cX12_light 8 = .ok (.iload_n 2, 1) := by decide +kernel
theorem dX12_light_9 : decode cX12_light 9 = .ok (.iconst (-1), 1) := by decide +kernel
theorem dX12_light_10 : decode cX12_light 10 = .ok (.bipush 20, 2) := by decide +kernel
theorem dX12_light_12 : decode cX12_light 12 = .ok (.invokestatic 296, 3) := by decide +kernel
theorem dX12_light_15 : decode cX12_light 15 = .ok (.ifCond .eq 13, 3) := by decide +kernel
theorem dX12_light_18 : decode cX12_light 18 = .ok (.aload_n 0, 1) := by decide +kernel
theorem dX12_light_19 : decode cX12_light 19 = .ok (.getfield 162, 3) := by decide +kernel
theorem dX12_light_22 : decode cX12_light 22 = .ok (.iload_n 1, 1) := by decide +kernel
theorem dX12_light_23 : decode cX12_light 23 = .ok (.iaload, 1) := by decide +kernel
theorem dX12_light_24 : decode cX12_light 24 = .ok (.iload_n 2, 1) := by decide +kernel
theorem dX12_light_25 : decode cX12_light 25 = .ok (.if_icmp .ne 17, 3) := by decide +kernel
theorem dX12_light_28 : decode cX12_light 28 = .ok (.aload_n 0, 1) := by decide +kernel
theorem dX12_light_29 : decode cX12_light 29 = .ok (.iconst 3, 1) := by decide +kernel
theorem dX12_light_30 : decode cX12_light 30 = .ok (.invokevirtual 216, 3) := by decide +kernel
theorem dX12_light_33 : decode cX12_light 33 = .ok (.ifCond .lt 7, 3) := by decide +kernel
theorem dX12_light_36 : decode cX12_light 36 = .ok (.iconst 1, 1) := by decide +kernel
theorem dX12_light_37 : decode cX12_light 37 = .ok (.goto 4, 3) := by decide +kernel
theorem dX12_light_40 : decode cX12_light 40 = .ok (.iconst 0, 1) := by decide +kernel
theorem dX12_light_41 : decode cX12_light 41 = .ok (.ireturn, 1) := by decide +kernel
theorem dX12_light_42 : decode cX12_light 42 = .ok (.aload_n 0, 1) := by decide +kernel
theorem dX12_light_43 : decode cX12_light 43 = .ok (.invokevirtual 497, 3) := by decide +kernel
theorem dX12_light_46 : decode cX12_light 46 = .ok (.aload_n 0, 1) := by decide +kernel
theorem dX12_light_47 : decode cX12_light 47 = .ok (.getfield 162, 3) := by decide +kernel
theorem dX12_light_50 : decode cX12_light 50 = .ok (.iload_n 1, 1) := by decide +kernel
theorem dX12_light_51 : decode cX12_light 51 = .ok (.iload_n 2, 1) := by decide +kernel
theorem dX12_light_52 : decode cX12_light 52 = .ok (.iastore, 1) := by decide +kernel
theorem dX12_light_53 : decode cX12_light 53 = .ok (.iconst 1, 1) := by decide +kernel
theorem dX12_light_54 : decode cX12_light 54 = .ok (.ireturn, 1) := by decide +kernel
theorem dX12_seed_0 : decode cX12_seed 0 = .ok (.iload_n 1, 1) := by decide +kernel
theorem dX12_seed_1 : decode cX12_seed 1 = .ok (.ifCond .ge 17, 3) := by decide +kernel
theorem dX12_seed_4 : decode cX12_seed 4 = .ok (.aload_n 0, 1) := by decide +kernel
theorem dX12_seed_5 : decode cX12_seed 5 = .ok (.iconst 5, 1) := by decide +kernel
theorem dX12_seed_6 : decode cX12_seed 6 = .ok (.invokevirtual 216, 3) := by decide +kernel
theorem dX12_seed_9 : decode cX12_seed 9 = .ok (.ifCond .lt 7, 3) := by decide +kernel
theorem dX12_seed_12 : decode cX12_seed 12 = .ok (.iconst 1, 1) := by decide +kernel
theorem dX12_seed_13 : decode cX12_seed 13 = .ok (.goto 4, 3) := by decide +kernel
theorem dX12_seed_16 : decode cX12_seed 16 = .ok (.iconst 0, 1) := by decide +kernel
theorem dX12_seed_17 : decode cX12_seed 17 = .ok (.ireturn, 1) := by decide +kernel
theorem dX12_seed_18 : decode cX12_seed 18 = .ok (.aload_n 0, 1) := by decide +kernel
theorem dX12_seed_19 : decode cX12_seed 19 = .ok (.iload_n 1, 1) := by decide +kernel
theorem dX12_seed_20 : decode cX12_seed 20 = .ok (.i2l, 1) := by decide +kernel
theorem dX12_seed_21 : decode cX12_seed 21 = .ok (.putfield 177, 3) := by decide +kernel
theorem dX12_seed_24 : decode cX12_seed 24 = .ok (.iconst 1, 1) := by decide +kernel
theorem dX12_seed_25 : decode cX12_seed 25 = .ok (.ireturn, 1) := by decide +kernel
theorem dX12_kept_0 : decode cX12_kept 0 = .ok (.iload_n 1, 1) := by decide +kernel
theorem dX12_kept_1 : decode cX12_kept 1 = .ok (.iconst 0, 1) := by decide +kernel
theorem dX12_kept_2 : decode cX12_kept 2 = .ok (.aload_n 0, 1) := by decide +kernel
theorem dX12_kept_3 : decode cX12_kept 3 = .ok (.getfield 165, 3) := by decide +kernel
theorem dX12_kept_6 : decode cX12_kept 6 = .ok (.iconst 0, 1) := by decide +kernel
theorem dX12_kept_7 : decode cX12_kept 7 = .ok (.iaload, 1) := by decide +kernel
theorem dX12_kept_8 : decode cX12_kept 8 = .ok (.iconst 1, 1) := by decide +kernel
theorem dX12_kept_9 : decode cX12_kept 9 = .ok (.isub, 1) := by decide +kernel
theorem dX12_kept_10 : decode cX12_kept 10 = .ok (.invokestatic 296, 3) := by decide +kernel
theorem dX12_kept_13 : decode cX12_kept 13 = .ok (.ifCond .eq 25, 3) := by decide +kernel
theorem dX12_kept_16 : decode cX12_kept 16 = .ok (.iload_n 2, 1) := by decide +kernel
theorem dX12_kept_17 : decode cX12_kept 17 = .ok (.iconst 0, 1) := by decide +kernel
theorem dX12_kept_18 : decode cX12_kept 18 = .ok (.iconst 3, 1) := by decide +kernel
theorem dX12_kept_19 : decode cX12_kept 19 = .ok (.invokestatic 296, 3) := by decide +kernel
theorem dX12_kept_22 : decode cX12_kept 22 = .ok (.ifCond .eq 16, 3) := by decide +kernel
theorem dX12_kept_25 : decode cX12_kept 25 = .ok (.aload_n 0, 1) := by decide +kernel
theorem dX12_kept_26 : decode cX12_kept 26 = .ok (.getfield 168, 3) := by decide +kernel
theorem dX12_kept_29 : decode cX12_kept 29 = .ok (.iconst 4, 1) := by decide +kernel
theorem dX12_kept_30 : decode cX12_kept 30 = .ok (.iload_n 1, 1) := by decide +kernel
theorem dX12_kept_31 : decode cX12_kept 31 = .ok (.imul, 1) := by decide +kernel
theorem dX12_kept_32 : decode cX12_kept 32 = .ok (.iload_n 2, 1) := by decide +kernel
theorem dX12_kept_33 : decode cX12_kept 33 = .ok (.iadd, 1) := by decide +kernel
theorem dX12_kept_34 : decode cX12_kept 34 = .ok (.iaload, 1) := by decide +kernel
theorem dX12_kept_35 : decode cX12_kept 35 = .ok (.goto 4, 3) := by decide +kernel
theorem dX12_kept_38 : decode cX12_kept 38 = .ok (.iconst (-1), 1) := by decide +kernel
theorem dX12_kept_39 : decode cX12_kept 39 = .ok (.ireturn, 1) := by decide +kernel
theorem dX12_writes_0 : decode cX12_writes 0 = .ok (.aload_n 0, 1) := by decide +kernel
theorem dX12_writes_1 : decode cX12_writes 1 = .ok (.getfield 210, 3) := by decide +kernel
theorem dX12_writes_4 : decode cX12_writes 4 = .ok (.aload_n 0, 1) := by decide +kernel
theorem dX12_writes_5 : decode cX12_writes 5 = .ok (.getfield 213, 3) := by decide +kernel
theorem dX12_writes_8 : decode cX12_writes 8 = .ok (.iload_n 1, 1) := by decide +kernel
theorem dX12_writes_9 : decode cX12_writes 9 = .ok (.sipush 255, 3) := by decide +kernel
theorem dX12_writes_12 : decode cX12_writes 12 = .ok (.iand, 1) := by decide +kernel
theorem dX12_writes_13 : decode cX12_writes 13 = .ok (.iastore, 1) := by decide +kernel
theorem dX12_writes_14 : decode cX12_writes 14 = .ok (.aload_n 0, 1) := by decide +kernel
theorem dX12_writes_15 : decode cX12_writes 15 = .ok (.dup, 1) := by decide +kernel
theorem dX12_writes_16 : decode cX12_writes 16 = .ok (.getfield 213, 3) := by decide +kernel
theorem dX12_writes_19 : decode cX12_writes 19 = .ok (.iconst 1, 1) := by decide +kernel
theorem dX12_writes_20 : decode cX12_writes 20 = .ok (.iadd, 1) := by decide +kernel
theorem dX12_writes_21 : decode cX12_writes 21 = .ok (.putfield 213, 3) := by decide +kernel
theorem dX12_writes_24 : decode cX12_writes 24 = .ok (.return_, 1) := by decide +kernel
theorem dX12_image_0 : decode cX12_image 0 = .ok (.aload_n 0, 1) := by decide +kernel
theorem dX12_image_1 : decode cX12_image 1 = .ok (.iconst 0, 1) := by decide +kernel
theorem dX12_image_2 : decode cX12_image 2 = .ok (.putfield 213, 3) := by decide +kernel
theorem dX12_image_5 : decode cX12_image 5 = .ok (.aload_n 0, 1) := by decide +kernel
theorem dX12_image_6 : decode cX12_image 6 = .ok (.aload_n 0, 1) := by decide +kernel
theorem dX12_image_7 : decode cX12_image 7 = .ok (.getfield 141, 3) := by decide +kernel
theorem dX12_image_10 : decode cX12_image 10 = .ok (.iconst 0, 1) := by decide +kernel
theorem dX12_image_11 : decode cX12_image 11 = .ok (.iaload, 1) := by decide +kernel
theorem dX12_image_12 : decode cX12_image 12 = .ok (.bipush 8, 2) := by decide +kernel
theorem dX12_image_14 : decode cX12_image 14 = .ok (.ishr, 1) := by decide +kernel
theorem dX12_image_15 : decode cX12_image 15 = .ok (.invokevirtual 511, 3) := by decide +kernel
theorem dX12_image_18 : decode cX12_image 18 = .ok (.aload_n 0, 1) := by decide +kernel
theorem dX12_image_19 : decode cX12_image 19 = .ok (.aload_n 0, 1) := by decide +kernel
theorem dX12_image_20 : decode cX12_image 20 = .ok (.getfield 141, 3) := by decide +kernel
theorem dX12_image_23 : decode cX12_image 23 = .ok (.iconst 0, 1) := by decide +kernel
theorem dX12_image_24 : decode cX12_image 24 = .ok (.iaload, 1) := by decide +kernel
theorem dX12_image_25 : decode cX12_image 25 = .ok (.invokevirtual 511, 3) := by decide +kernel
theorem dX12_image_28 : decode cX12_image 28 = .ok (.aload_n 0, 1) := by decide +kernel
theorem dX12_image_29 : decode cX12_image 29 = .ok (.aload_n 0, 1) := by decide +kernel
theorem dX12_image_30 : decode cX12_image 30 = .ok (.getfield 144, 3) := by decide +kernel
theorem dX12_image_33 : decode cX12_image 33 = .ok (.iconst 0, 1) := by decide +kernel
theorem dX12_image_34 : decode cX12_image 34 = .ok (.iaload, 1) := by decide +kernel
theorem dX12_image_35 : decode cX12_image 35 = .ok (.bipush 8, 2) := by decide +kernel
theorem dX12_image_37 : decode cX12_image 37 = .ok (.ishr, 1) := by decide +kernel
theorem dX12_image_38 : decode cX12_image 38 = .ok (.invokevirtual 511, 3) := by decide +kernel
theorem dX12_image_41 : decode cX12_image 41 = .ok (.aload_n 0, 1) := by decide +kernel
theorem dX12_image_42 : decode cX12_image 42 = .ok (.aload_n 0, 1) := by decide +kernel
theorem dX12_image_43 : decode cX12_image 43 = .ok (.getfield 144, 3) := by decide +kernel
theorem dX12_image_46 : decode cX12_image 46 = .ok (.iconst 0, 1) := by decide +kernel
theorem dX12_image_47 : decode cX12_image 47 = .ok (.iaload, 1) := by decide +kernel
theorem dX12_image_48 : decode cX12_image 48 = .ok (.invokevirtual 511, 3) := by decide +kernel
theorem dX12_image_51 : decode cX12_image 51 = .ok (.iconst 0, 1) := by decide +kernel
theorem dX12_image_52 : decode cX12_image 52 = .ok (.istore_n 1, 1) := by decide +kernel
theorem dX12_image_53 : decode cX12_image 53 = .ok (.iload_n 1, 1) := by decide +kernel
theorem dX12_image_54 : decode cX12_image 54 = .ok (.aload_n 0, 1) := by decide +kernel
theorem dX12_image_55 : decode cX12_image 55 = .ok (.getfield 54, 3) := by decide +kernel
theorem dX12_image_58 : decode cX12_image 58 = .ok (.aload_n 0, 1) := by decide +kernel
theorem dX12_image_59 : decode cX12_image 59 = .ok (.getfield 51, 3) := by decide +kernel
theorem dX12_image_62 : decode cX12_image 62 = .ok (.iaload, 1) := by decide +kernel
theorem dX12_image_63 : decode cX12_image 63 = .ok (.if_icmp .ge 90, 3) := by decide +kernel
theorem dX12_image_66 : decode cX12_image 66 = .ok (.aload_n 0, 1) := by decide +kernel
theorem dX12_image_67 : decode cX12_image 67 = .ok (.aload_n 0, 1) := by decide +kernel
theorem dX12_image_68 : decode cX12_image 68 = .ok (.getfield 153, 3) := by decide +kernel
theorem dX12_image_71 : decode cX12_image 71 = .ok (.iload_n 1, 1) := by decide +kernel
theorem dX12_image_72 : decode cX12_image 72 = .ok (.iaload, 1) := by decide +kernel
theorem dX12_image_73 : decode cX12_image 73 = .ok (.iconst (-1), 1) := by decide +kernel
theorem dX12_image_74 : decode cX12_image 74 = .ok (.if_icmp .ne 7, 3) := by decide +kernel
theorem dX12_image_77 : decode cX12_image 77 = .ok (.iconst 0, 1) := by decide +kernel
theorem dX12_image_78 : decode cX12_image 78 = .ok (.goto 4, 3) := by decide +kernel
theorem dX12_image_81 : decode cX12_image 81 = .ok (.iconst 1, 1) := by decide +kernel
theorem dX12_image_82 : decode cX12_image 82 = .ok (.invokevirtual 511, 3) := by decide +kernel
theorem dX12_image_85 : decode cX12_image 85 = .ok (.aload_n 0, 1) := by decide +kernel
theorem dX12_image_86 : decode cX12_image 86 = .ok (.aload_n 0, 1) := by decide +kernel
theorem dX12_image_87 : decode cX12_image 87 = .ok (.getfield 147, 3) := by decide +kernel
theorem dX12_image_90 : decode cX12_image 90 = .ok (.iload_n 1, 1) := by decide +kernel
theorem dX12_image_91 : decode cX12_image 91 = .ok (.iaload, 1) := by decide +kernel
theorem dX12_image_92 : decode cX12_image 92 = .ok (.invokevirtual 511, 3) := by decide +kernel
theorem dX12_image_95 : decode cX12_image 95 = .ok (.aload_n 0, 1) := by decide +kernel
theorem dX12_image_96 : decode cX12_image 96 = .ok (.aload_n 0, 1) := by decide +kernel
theorem dX12_image_97 : decode cX12_image 97 = .ok (.getfield 150, 3) := by decide +kernel
theorem dX12_image_100 : decode cX12_image 100 = .ok (.iload_n 1, 1) := by decide +kernel
theorem dX12_image_101 : decode cX12_image 101 = .ok (.iaload, 1) := by decide +kernel
theorem dX12_image_102 : decode cX12_image 102 = .ok (.invokevirtual 511, 3) := by decide +kernel
theorem dX12_image_105 : decode cX12_image 105 = .ok (.aload_n 0, 1) := by decide +kernel
theorem dX12_image_106 : decode cX12_image 106 = .ok (.aload_n 0, 1) := by decide +kernel
theorem dX12_image_107 : decode cX12_image 107 = .ok (.getfield 153, 3) := by decide +kernel
theorem dX12_image_110 : decode cX12_image 110 = .ok (.iload_n 1, 1) := by decide +kernel
theorem dX12_image_111 : decode cX12_image 111 = .ok (.iaload, 1) := by decide +kernel
theorem dX12_image_112 : decode cX12_image 112 = .ok (.invokevirtual 511, 3) := by decide +kernel
theorem dX12_image_115 : decode cX12_image 115 = .ok (.aload_n 0, 1) := by decide +kernel
theorem dX12_image_116 : decode cX12_image 116 = .ok (.aload_n 0, 1) := by decide +kernel
theorem dX12_image_117 : decode cX12_image 117 = .ok (.getfield 159, 3) := by decide +kernel
theorem dX12_image_120 : decode cX12_image 120 = .ok (.iconst 0, 1) := by decide +kernel
theorem dX12_image_121 : decode cX12_image 121 = .ok (.iaload, 1) := by decide +kernel
theorem dX12_image_122 : decode cX12_image 122 = .ok (.iload_n 1, 1) := by decide +kernel
theorem dX12_image_123 : decode cX12_image 123 = .ok (.invokestatic 458, 3) := by decide +kernel
theorem dX12_image_126 : decode cX12_image 126 = .ok (.ifCond .eq 7, 3) := by decide +kernel
theorem dX12_image_129 : decode cX12_image 129 = .ok (.iconst 1, 1) := by decide +kernel
theorem dX12_image_130 : decode cX12_image 130 = .ok (.goto 4, 3) := by decide +kernel
theorem dX12_image_133 : decode cX12_image 133 = .ok (.iconst 0, 1) := by decide +kernel
theorem dX12_image_134 : decode cX12_image 134 = .ok (.invokevirtual 511, 3) := by decide +kernel
theorem dX12_image_137 : decode cX12_image 137 = .ok (.aload_n 0, 1) := by decide +kernel
theorem dX12_image_138 : decode cX12_image 138 = .ok (.aload_n 0, 1) := by decide +kernel
theorem dX12_image_139 : decode cX12_image 139 = .ok (.getfield 156, 3) := by decide +kernel
theorem dX12_image_142 : decode cX12_image 142 = .ok (.iload_n 1, 1) := by decide +kernel
theorem dX12_image_143 : decode cX12_image 143 = .ok (.iaload, 1) := by decide +kernel
theorem dX12_image_144 : decode cX12_image 144 = .ok (.invokevirtual 511, 3) := by decide +kernel
theorem dX12_image_147 : decode cX12_image 147 = .ok (.iinc 1 1, 3) := by decide +kernel
theorem dX12_image_150 : decode cX12_image 150 = .ok (.goto (-97), 3) := by decide +kernel
theorem dX12_image_153 : decode cX12_image 153 = .ok (.iconst 0, 1) := by decide +kernel
theorem dX12_image_154 : decode cX12_image 154 = .ok (.istore_n 1, 1) := by decide +kernel
theorem dX12_image_155 : decode cX12_image 155 = .ok (.iload_n 1, 1) := by decide +kernel
theorem dX12_image_156 : decode cX12_image 156 = .ok (.aload_n 0, 1) := by decide +kernel
theorem dX12_image_157 : decode cX12_image 157 = .ok (.getfield 63, 3) := by decide +kernel
theorem dX12_image_160 : decode cX12_image 160 = .ok (.aload_n 0, 1) := by decide +kernel
theorem dX12_image_161 : decode cX12_image 161 = .ok (.getfield 51, 3) := by decide +kernel
theorem dX12_image_164 : decode cX12_image 164 = .ok (.iaload, 1) := by decide +kernel
theorem dX12_image_165 : decode cX12_image 165 = .ok (.if_icmp .ge 19, 3) := by decide +kernel
theorem dX12_image_168 : decode cX12_image 168 = .ok (.aload_n 0, 1) := by decide +kernel
theorem dX12_image_169 : decode cX12_image 169 = .ok (.aload_n 0, 1) := by decide +kernel
theorem dX12_image_170 : decode cX12_image 170 = .ok (.getfield 162, 3) := by decide +kernel
theorem dX12_image_173 : decode cX12_image 173 = .ok (.iload_n 1, 1) := by decide +kernel
theorem dX12_image_174 : decode cX12_image 174 = .ok (.iaload, 1) := by decide +kernel
theorem dX12_image_175 : decode cX12_image 175 = .ok (.invokevirtual 511, 3) := by decide +kernel
theorem dX12_image_178 : decode cX12_image 178 = .ok (.iinc 1 1, 3) := by decide +kernel
theorem dX12_image_181 : decode cX12_image 181 = .ok (.goto (-26), 3) := by decide +kernel
theorem dX12_image_184 : decode cX12_image 184 = .ok (.sipush 241, 3) := by decide +kernel
theorem dX12_image_187 : decode cX12_image 187 = .ok (.istore_n 1, 1) := by decide +kernel
theorem dX12_image_188 : decode cX12_image 188 = .ok (.iconst 0, 1) := by decide +kernel
theorem dX12_image_189 : decode cX12_image 189 = .ok (.istore_n 2, 1) := by decide +kernel
theorem dX12_image_190 : decode cX12_image 190 = .ok (.iload_n 2, 1) := by decide +kernel
theorem dX12_image_191 : decode cX12_image 191 = .ok (.aload_n 0, 1) := by decide +kernel
theorem dX12_image_192 : decode cX12_image 192 = .ok (.getfield 213, 3) := by decide +kernel
theorem dX12_image_195 : decode cX12_image 195 = .ok (.if_icmp .ge 24, 3) := by decide +kernel
theorem dX12_image_198 : decode cX12_image 198 = .ok (.iconst 5, 1) := by decide +kernel
theorem dX12_image_199 : decode cX12_image 199 = .ok (.iload_n 1, 1) := by decide +kernel
theorem dX12_image_200 : decode cX12_image 200 = .ok (.imul, 1) := by decide +kernel
theorem dX12_image_201 : decode cX12_image 201 = .ok (.aload_n 0, 1) := by decide +kernel
theorem dX12_image_202 : decode cX12_image 202 = .ok (.getfield 210, 3) := by decide +kernel
theorem dX12_image_205 : decode cX12_image 205 = .ok (.iload_n 2, 1) := by decide +kernel
theorem dX12_image_206 : decode cX12_image 206 = .ok (.iaload, 1) := by decide +kernel
theorem dX12_image_207 : decode cX12_image 207 = .ok (.iadd, 1) := by decide +kernel
theorem dX12_image_208 : decode cX12_image 208 = .ok (.sipush 251, 3) := by decide +kernel
theorem dX12_image_211 : decode cX12_image 211 = .ok (.irem, 1) := by decide +kernel
theorem dX12_image_212 : decode cX12_image 212 = .ok (.istore_n 1, 1) := by decide +kernel
theorem dX12_image_213 : decode cX12_image 213 = .ok (.iinc 2 1, 3) := by decide +kernel
theorem dX12_image_216 : decode cX12_image 216 = .ok (.goto (-26), 3) := by decide +kernel
theorem dX12_image_219 : decode cX12_image 219 = .ok (.aload_n 0, 1) := by decide +kernel
theorem dX12_image_220 : decode cX12_image 220 = .ok (.iload_n 1, 1) := by decide +kernel
theorem dX12_image_221 : decode cX12_image 221 = .ok (.invokevirtual 511, 3) := by decide +kernel
theorem dX12_image_224 : decode cX12_image 224 = .ok (.aload_n 0, 1) := by decide +kernel
theorem dX12_image_225 : decode cX12_image 225 = .ok (.getfield 213, 3) := by decide +kernel
theorem dX12_image_228 : decode cX12_image 228 = .ok (.ireturn, 1) := by decide +kernel
theorem dX12_octet_0 : decode cX12_octet 0 = .ok (.iload_n 1, 1) := by decide +kernel
theorem dX12_octet_1 : decode cX12_octet 1 = .ok (.iconst 0, 1) := by decide +kernel
theorem dX12_octet_2 : decode cX12_octet 2 = .ok (.aload_n 0, 1) := by decide +kernel
theorem dX12_octet_3 : decode cX12_octet 3 = .ok (.getfield 213, 3) := by decide +kernel
theorem dX12_octet_6 : decode cX12_octet 6 = .ok (.iconst 1, 1) := by decide +kernel
theorem dX12_octet_7 : decode cX12_octet 7 = .ok (.isub, 1) := by decide +kernel
theorem dX12_octet_8 : decode cX12_octet 8 = .ok (.invokestatic 296, 3) := by decide +kernel
theorem dX12_octet_11 : decode cX12_octet 11 = .ok (.ifCond .eq 12, 3) := by decide +kernel
theorem dX12_octet_14 : decode cX12_octet 14 = .ok (.aload_n 0, 1) := by decide +kernel
theorem dX12_octet_15 : decode cX12_octet 15 = .ok (.getfield 210, 3) := by decide +kernel
theorem dX12_octet_18 : decode cX12_octet 18 = .ok (.iload_n 1, 1) := by decide +kernel
theorem dX12_octet_19 : decode cX12_octet 19 = .ok (.iaload, 1) := by decide +kernel
theorem dX12_octet_20 : decode cX12_octet 20 = .ok (.goto 4, 3) := by decide +kernel
theorem dX12_octet_23 : decode cX12_octet 23 = .ok (.iconst (-1), 1) := by decide +kernel
theorem dX12_octet_24 : decode cX12_octet 24 = .ok (.ireturn, 1) := by decide +kernel
theorem dX12_orNone_0 : decode cX12_orNone 0 = .ok (.iload_n 0, 1) := by decide +kernel
theorem dX12_orNone_1 : decode cX12_orNone 1 = .ok (.sipush 255, 3) := by decide +kernel
theorem dX12_orNone_4 : decode cX12_orNone 4 = .ok (.if_icmp .ne 7, 3) := by decide +kernel
theorem dX12_orNone_7 : decode cX12_orNone 7 = .ok (.iconst (-1), 1) := by decide +kernel
theorem dX12_orNone_8 : decode cX12_orNone 8 = .ok (.goto 4, 3) := by decide +kernel
theorem dX12_orNone_11 : decode cX12_orNone 11 = .ok (.iload_n 0, 1) := by decide +kernel
theorem dX12_orNone_12 : decode cX12_orNone 12 = .ok (.ireturn, 1) := by decide +kernel
theorem dX12_childOn_0 : decode cX12_childOn 0 = .ok (.bipush 8, 2) := by decide +kernel
theorem dX12_childOn_2 : decode cX12_childOn 2 = .ok (.iload_n 1, 1) := by decide +kernel
theorem dX12_childOn_3 : decode cX12_childOn 3 = .ok (.iadd, 1) := by decide +kernel
theorem dX12_childOn_4 : decode cX12_childOn 4 = .ok (.istore_n 3, 1) := by decide +kernel
theorem dX12_childOn_5 : decode cX12_childOn 5 = .ok (.aload_n 0, 1) := by decide +kernel
theorem dX12_childOn_6 : decode cX12_childOn 6 = .ok (.getfield 7, 3) := by decide +kernel
theorem dX12_childOn_9 : decode cX12_childOn 9 = .ok (.iload_n 2, 1) := by decide +kernel
theorem dX12_childOn_10 : decode cX12_childOn 10 = .ok (.iaload, 1) := by decide +kernel
theorem dX12_childOn_11 : decode cX12_childOn 11 = .ok (.iconst 1, 1) := by decide +kernel
theorem dX12_childOn_12 : decode cX12_childOn 12 = .ok (.if_icmp .ne 7, 3) := by decide +kernel
theorem dX12_childOn_15 : decode cX12_childOn 15 = .ok (.iconst 1, 1) := by decide +kernel
theorem dX12_childOn_16 : decode cX12_childOn 16 = .ok (.goto 4, 3) := by decide +kernel
theorem dX12_childOn_19 : decode cX12_childOn 19 = .ok (.iconst 0, 1) := by decide +kernel
theorem dX12_childOn_20 : decode cX12_childOn 20 = .ok (.istore 4, 2) := by decide +kernel
theorem dX12_childOn_22 : decode cX12_childOn 22 = .ok (.aload_n 0, 1) := by decide +kernel
theorem dX12_childOn_23 : decode cX12_childOn 23 = .ok (.getfield 147, 3) := by decide +kernel
theorem dX12_childOn_26 : decode cX12_childOn 26 = .ok (.iload_n 3, 1) := by decide +kernel
theorem dX12_childOn_27 : decode cX12_childOn 27 = .ok (.aload_n 0, 1) := by decide +kernel
theorem dX12_childOn_28 : decode cX12_childOn 28 = .ok (.getfield 7, 3) := by decide +kernel
theorem dX12_childOn_31 : decode cX12_childOn 31 = .ok (.iload_n 2, 1) := by decide +kernel
theorem dX12_childOn_32 : decode cX12_childOn 32 = .ok (.iconst 1, 1) := by decide +kernel
theorem dX12_childOn_33 : decode cX12_childOn 33 = .ok (.iadd, 1) := by decide +kernel
theorem dX12_childOn_34 : decode cX12_childOn 34 = .ok (.iaload, 1) := by decide +kernel
theorem dX12_childOn_35 : decode cX12_childOn 35 = .ok (.invokestatic 514, 3) := by decide +kernel
theorem dX12_childOn_38 : decode cX12_childOn 38 = .ok (.iastore, 1) := by decide +kernel
theorem dX12_childOn_39 : decode cX12_childOn 39 = .ok (.aload_n 0, 1) := by decide +kernel
theorem dX12_childOn_40 : decode cX12_childOn 40 = .ok (.getfield 150, 3) := by decide +kernel
theorem dX12_childOn_43 : decode cX12_childOn 43 = .ok (.iload_n 3, 1) := by decide +kernel
theorem dX12_childOn_44 : decode cX12_childOn 44 = .ok (.aload_n 0, 1) := by decide +kernel
theorem dX12_childOn_45 : decode cX12_childOn 45 = .ok (.getfield 7, 3) := by decide +kernel
theorem dX12_childOn_48 : decode cX12_childOn 48 = .ok (.iload_n 2, 1) := by decide +kernel
theorem dX12_childOn_49 : decode cX12_childOn 49 = .ok (.iconst 2, 1) := by decide +kernel
theorem dX12_childOn_50 : decode cX12_childOn 50 = .ok (.iadd, 1) := by decide +kernel
theorem dX12_childOn_51 : decode cX12_childOn 51 = .ok (.iaload, 1) := by decide +kernel
theorem dX12_childOn_52 : decode cX12_childOn 52 = .ok (.invokestatic 514, 3) := by decide +kernel
theorem dX12_childOn_55 : decode cX12_childOn 55 = .ok (.iastore, 1) := by decide +kernel
theorem dX12_childOn_56 : decode cX12_childOn 56 = .ok (.aload_n 0, 1) := by decide +kernel
theorem dX12_childOn_57 : decode cX12_childOn 57 = .ok (.getfield 153, 3) := by decide +kernel
theorem dX12_childOn_60 : decode cX12_childOn 60 = .ok (.iload_n 3, 1) := by decide +kernel
theorem dX12_childOn_61 : decode cX12_childOn 61 = .ok (.aload_n 0, 1) := by decide +kernel
theorem dX12_childOn_62 : decode cX12_childOn 62 = .ok (.getfield 7, 3) := by decide +kernel
theorem dX12_childOn_65 : decode cX12_childOn 65 = .ok (.iload_n 2, 1) := by decide +kernel
theorem dX12_childOn_66 : decode cX12_childOn 66 = .ok (.iconst 3, 1) := by decide +kernel
theorem dX12_childOn_67 : decode cX12_childOn 67 = .ok (.iadd, 1) := by decide +kernel
theorem dX12_childOn_68 : decode cX12_childOn 68 = .ok (.iaload, 1) := by decide +kernel
theorem dX12_childOn_69 : decode cX12_childOn 69 = .ok (.invokestatic 514, 3) := by decide +kernel
theorem dX12_childOn_72 : decode cX12_childOn 72 = .ok (.iastore, 1) := by decide +kernel
theorem dX12_childOn_73 : decode cX12_childOn 73 = .ok (.aload_n 0, 1) := by decide +kernel
theorem dX12_childOn_74 : decode cX12_childOn 74 = .ok (.getfield 156, 3) := by decide +kernel
theorem dX12_childOn_77 : decode cX12_childOn 77 = .ok (.iload_n 3, 1) := by decide +kernel
theorem dX12_childOn_78 : decode cX12_childOn 78 = .ok (.aload_n 0, 1) := by decide +kernel
theorem dX12_childOn_79 : decode cX12_childOn 79 = .ok (.getfield 7, 3) := by decide +kernel
theorem dX12_childOn_82 : decode cX12_childOn 82 = .ok (.iload_n 2, 1) := by decide +kernel
theorem dX12_childOn_83 : decode cX12_childOn 83 = .ok (.iconst 5, 1) := by decide +kernel
theorem dX12_childOn_84 : decode cX12_childOn 84 = .ok (.iadd, 1) := by decide +kernel
theorem dX12_childOn_85 : decode cX12_childOn 85 = .ok (.iaload, 1) := by decide +kernel
theorem dX12_childOn_86 : decode cX12_childOn 86 = .ok (.iastore, 1) := by decide +kernel
theorem dX12_childOn_87 : decode cX12_childOn 87 = .ok (.aload_n 0, 1) := by decide +kernel
theorem dX12_childOn_88 : decode cX12_childOn 88 = .ok (.getfield 159, 3) := by decide +kernel
theorem dX12_childOn_91 : decode cX12_childOn 91 = .ok (.iconst 1, 1) := by decide +kernel
theorem dX12_childOn_92 : decode cX12_childOn 92 = .ok (.dup2, 1) := by decide +kernel
theorem dX12_childOn_93 : decode cX12_childOn 93 = .ok (.iaload, 1) := by decide +kernel
theorem dX12_childOn_94 : decode cX12_childOn 94 = .ok (.aload_n 0, 1) := by decide +kernel
theorem dX12_childOn_95 : decode cX12_childOn 95 = .ok (.getfield 7, 3) := by decide +kernel
theorem dX12_childOn_98 : decode cX12_childOn 98 = .ok (.iload_n 2, 1) := by decide +kernel
theorem dX12_childOn_99 : decode cX12_childOn 99 = .ok (.iconst 4, 1) := by decide +kernel
theorem dX12_childOn_100 : decode cX12_childOn 100 = .ok (.iadd, 1) := by decide +kernel
theorem dX12_childOn_101 : decode cX12_childOn 101 = .ok (.iaload, 1) := by decide +kernel
theorem dX12_childOn_102 : decode cX12_childOn 102 = .ok (.iconst 1, 1) := by decide +kernel
theorem dX12_childOn_103 : decode cX12_childOn 103 = .ok (.if_icmp .ne 9, 3) := by decide +kernel
theorem dX12_childOn_106 : decode cX12_childOn 106 = .ok (.iconst 1, 1) := by decide +kernel
theorem dX12_childOn_107 : decode cX12_childOn 107 = .ok (.iload_n 1, 1) := by decide +kernel
theorem dX12_childOn_108 : decode cX12_childOn 108 = .ok (.ishl, 1) := by decide +kernel
theorem dX12_childOn_109 : decode cX12_childOn 109 = .ok (.goto 4, 3) := by decide +kernel
theorem dX12_childOn_112 : decode cX12_childOn 112 = .ok (.iconst 0, 1) := by decide +kernel
theorem dX12_childOn_113 : decode cX12_childOn 113 = .ok (.ior, 1) := by decide +kernel
theorem dX12_childOn_114 : decode cX12_childOn 114 = .ok (.iastore, 1) := by decide +kernel
theorem dX12_childOn_115 : decode cX12_childOn 115 = .ok (.aload_n 0, 1) := by decide +kernel
theorem dX12_childOn_116 : decode cX12_childOn 116 = .ok (.getfield 7, 3) := by decide +kernel
theorem dX12_childOn_119 : decode cX12_childOn 119 = .ok (.iload_n 2, 1) := by decide +kernel
theorem dX12_childOn_120 : decode cX12_childOn 120 = .ok (.iaload, 1) := by decide +kernel
theorem dX12_childOn_121 : decode cX12_childOn 121 = .ok (.iconst 1, 1) := by decide +kernel
theorem dX12_childOn_122 : decode cX12_childOn 122 = .ok (.if_icmp .gt 48, 3) := by decide +kernel
theorem dX12_childOn_125 : decode cX12_childOn 125 = .ok (.aload_n 0, 1) := by decide +kernel
theorem dX12_childOn_126 : decode cX12_childOn 126 = .ok (.getfield 7, 3) := by decide +kernel
theorem dX12_childOn_129 : decode cX12_childOn 129 = .ok (.iload_n 2, 1) := by decide +kernel
theorem dX12_childOn_130 : decode cX12_childOn 130 = .ok (.iconst 4, 1) := by decide +kernel
theorem dX12_childOn_131 : decode cX12_childOn 131 = .ok (.iadd, 1) := by decide +kernel
theorem dX12_childOn_132 : decode cX12_childOn 132 = .ok (.iaload, 1) := by decide +kernel
theorem dX12_childOn_133 : decode cX12_childOn 133 = .ok (.iconst 1, 1) := by decide +kernel
theorem dX12_childOn_134 : decode cX12_childOn 134 = .ok (.if_icmp .gt 36, 3) := by decide +kernel
theorem dX12_childOn_137 : decode cX12_childOn 137 = .ok (.aload_n 0, 1) := by decide +kernel
theorem dX12_childOn_138 : decode cX12_childOn 138 = .ok (.getfield 147, 3) := by decide +kernel
theorem dX12_childOn_141 : decode cX12_childOn 141 = .ok (.iload_n 3, 1) := by decide +kernel
theorem dX12_childOn_142 : decode cX12_childOn 142 = .ok (.iaload, 1) := by decide +kernel
theorem dX12_childOn_143 : decode cX12_childOn 143 = .ok (.iconst (-1), 1) := by decide +kernel
theorem dX12_childOn_144 : decode cX12_childOn 144 = .ok (.if_icmp .ne 7, 3) := by decide +kernel
theorem dX12_childOn_147 : decode cX12_childOn 147 = .ok (.iconst 1, 1) := by decide +kernel
theorem dX12_childOn_148 : decode cX12_childOn 148 = .ok (.goto 4, 3) := by decide +kernel
theorem dX12_childOn_151 : decode cX12_childOn 151 = .ok (.iconst 0, 1) := by decide +kernel
theorem dX12_childOn_152 : decode cX12_childOn 152 = .ok (.aload_n 0, 1) := by decide +kernel
theorem dX12_childOn_153 : decode cX12_childOn 153 = .ok (.getfield 150, 3) := by decide +kernel
theorem dX12_childOn_156 : decode cX12_childOn 156 = .ok (.iload_n 3, 1) := by decide +kernel
theorem dX12_childOn_157 : decode cX12_childOn 157 = .ok (.iaload, 1) := by decide +kernel
theorem dX12_childOn_158 : decode cX12_childOn 158 = .ok (.iconst (-1), 1) := by decide +kernel
theorem dX12_childOn_159 : decode cX12_childOn 159 = .ok (.if_icmp .ne 7, 3) := by decide +kernel
theorem dX12_childOn_162 : decode cX12_childOn 162 = .ok (.iconst 1, 1) := by decide +kernel
theorem dX12_childOn_163 : decode cX12_childOn 163 = .ok (.goto 4, 3) := by decide +kernel
theorem dX12_childOn_166 : decode cX12_childOn 166 = .ok (.iconst 0, 1) := by decide +kernel
theorem dX12_childOn_167 : decode cX12_childOn 167 = .ok (.if_icmp .eq 5, 3) := by decide +kernel
theorem dX12_childOn_170 : decode cX12_childOn 170 = .ok (.iconst 0, 1) := by decide +kernel
theorem dX12_childOn_171 : decode cX12_childOn 171 = .ok (.ireturn, 1) := by decide +kernel
theorem dX12_childOn_172 : decode cX12_childOn 172 = .ok (.iload 4, 2) := by decide +kernel
theorem dX12_childOn_174 : decode cX12_childOn 174 = .ok (.ifCond .eq 34, 3) := by decide +kernel
theorem dX12_childOn_177 : decode cX12_childOn 177 = .ok (.aload_n 0, 1) := by decide +kernel
theorem dX12_childOn_178 : decode cX12_childOn 178 = .ok (.getfield 147, 3) := by decide +kernel
theorem dX12_childOn_181 : decode cX12_childOn 181 = .ok (.iload_n 3, 1) := by decide +kernel
theorem dX12_childOn_182 : decode cX12_childOn 182 = .ok (.iaload, 1) := by decide +kernel
theorem dX12_childOn_183 : decode cX12_childOn 183 = .ok (.iconst (-1), 1) := by decide +kernel
theorem dX12_childOn_184 : decode cX12_childOn 184 = .ok (.if_icmp .ne 22, 3) := by decide +kernel
theorem dX12_childOn_187 : decode cX12_childOn 187 = .ok (.aload_n 0, 1) := by decide +kernel
theorem dX12_childOn_188 : decode cX12_childOn 188 = .ok (.getfield 153, 3) := by decide +kernel
theorem dX12_childOn_191 : decode cX12_childOn 191 = .ok (.iload_n 3, 1) := by decide +kernel
theorem dX12_childOn_192 : decode cX12_childOn 192 = .ok (.iaload, 1) := by decide +kernel
theorem dX12_childOn_193 : decode cX12_childOn 193 = .ok (.iconst 0, 1) := by decide +kernel
theorem dX12_childOn_194 : decode cX12_childOn 194 = .ok (.bipush 99, 2) := by decide +kernel
theorem dX12_childOn_196 : decode cX12_childOn 196 = .ok (.invokestatic 296, 3) := by decide +kernel
theorem dX12_childOn_199 : decode cX12_childOn 199 = .ok (.ifCond .eq 7, 3) := by decide +kernel
theorem dX12_childOn_202 : decode cX12_childOn 202 = .ok (.iconst 1, 1) := by decide +kernel
theorem dX12_childOn_203 : decode cX12_childOn 203 = .ok (.goto 4, 3) := by decide +kernel
theorem dX12_childOn_206 : decode cX12_childOn 206 = .ok (.iconst 0, 1) := by decide +kernel
theorem dX12_childOn_207 : decode cX12_childOn 207 = .ok (.ireturn, 1) := by decide +kernel
theorem dX12_childOn_208 : decode cX12_childOn 208 = .ok (.aload_n 0, 1) := by decide +kernel
theorem dX12_childOn_209 : decode cX12_childOn 209 = .ok (.getfield 153, 3) := by decide +kernel
theorem dX12_childOn_212 : decode cX12_childOn 212 = .ok (.iload_n 3, 1) := by decide +kernel
theorem dX12_childOn_213 : decode cX12_childOn 213 = .ok (.iaload, 1) := by decide +kernel
theorem dX12_childOn_214 : decode cX12_childOn 214 = .ok (.iconst (-1), 1) := by decide +kernel
theorem dX12_childOn_215 : decode cX12_childOn 215 = .ok (.if_icmp .ne 24, 3) := by decide +kernel
theorem dX12_childOn_218 : decode cX12_childOn 218 = .ok (.aload_n 0, 1) := by decide +kernel
theorem dX12_childOn_219 : decode cX12_childOn 219 = .ok (.getfield 7, 3) := by decide +kernel
theorem dX12_childOn_222 : decode cX12_childOn 222 = .ok (.iload_n 2, 1) := by decide +kernel
theorem dX12_childOn_223 : decode cX12_childOn 223 = .ok (.iconst 4, 1) := by decide +kernel
theorem dX12_childOn_224 : decode cX12_childOn 224 = .ok (.iadd, 1) := by decide +kernel
theorem dX12_childOn_225 : decode cX12_childOn 225 = .ok (.iaload, 1) := by decide +kernel
theorem dX12_childOn_226 : decode cX12_childOn 226 = .ok (.iconst 1, 1) := by decide +kernel
theorem dX12_childOn_227 : decode cX12_childOn 227 = .ok (.if_icmp .eq 12, 3) := by decide +kernel
theorem dX12_childOn_230 : decode cX12_childOn 230 = .ok (.aload_n 0, 1) := by decide +kernel
theorem dX12_childOn_231 : decode cX12_childOn 231 = .ok (.getfield 156, 3) := by decide +kernel
theorem dX12_childOn_234 : decode cX12_childOn 234 = .ok (.iload_n 3, 1) := by decide +kernel
theorem dX12_childOn_235 : decode cX12_childOn 235 = .ok (.iaload, 1) := by decide +kernel
theorem dX12_childOn_236 : decode cX12_childOn 236 = .ok (.ifCond .eq 5, 3) := by decide +kernel
theorem dX12_childOn_239 : decode cX12_childOn 239 = .ok (.iconst 0, 1) := by decide +kernel
theorem dX12_childOn_240 : decode cX12_childOn 240 = .ok (.ireturn, 1) := by decide +kernel
theorem dX12_childOn_241 : decode cX12_childOn 241 = .ok (.aload_n 0, 1) := by decide +kernel
theorem dX12_childOn_242 : decode cX12_childOn 242 = .ok (.getfield 147, 3) := by decide +kernel
theorem dX12_childOn_245 : decode cX12_childOn 245 = .ok (.iload_n 3, 1) := by decide +kernel
theorem dX12_childOn_246 : decode cX12_childOn 246 = .ok (.iaload, 1) := by decide +kernel
theorem dX12_childOn_247 : decode cX12_childOn 247 = .ok (.iconst (-1), 1) := by decide +kernel
theorem dX12_childOn_248 : decode cX12_childOn 248 = .ok (.if_icmp .eq 24, 3) := by decide +kernel
theorem dX12_childOn_251 : decode cX12_childOn 251 = .ok (.aload_n 0, 1) := by decide +kernel
theorem dX12_childOn_252 : decode cX12_childOn 252 = .ok (.aload_n 0, 1) := by decide +kernel
theorem dX12_childOn_253 : decode cX12_childOn 253 = .ok (.getfield 147, 3) := by decide +kernel
theorem dX12_childOn_256 : decode cX12_childOn 256 = .ok (.iload_n 3, 1) := by decide +kernel
theorem dX12_childOn_257 : decode cX12_childOn 257 = .ok (.iaload, 1) := by decide +kernel
theorem dX12_childOn_258 : decode cX12_childOn 258 = .ok (.aload_n 0, 1) := by decide +kernel
theorem dX12_childOn_259 : decode cX12_childOn 259 = .ok (.getfield 150, 3) := by decide +kernel
theorem dX12_childOn_262 : decode cX12_childOn 262 = .ok (.iload_n 3, 1) := by decide +kernel
theorem dX12_childOn_263 : decode cX12_childOn 263 = .ok (.iaload, 1) := by decide +kernel
theorem dX12_childOn_264 : decode cX12_childOn 264 = .ok (.invokevirtual 462, 3) := by decide +kernel
theorem dX12_childOn_267 : decode cX12_childOn 267 = .ok (.ifCond .ne 5, 3) := by decide +kernel
theorem dX12_childOn_270 : decode cX12_childOn 270 = .ok (.iconst 0, 1) := by decide +kernel
theorem dX12_childOn_271 : decode cX12_childOn 271 = .ok (.ireturn, 1) := by decide +kernel
theorem dX12_childOn_272 : decode cX12_childOn 272 = .ok (.iconst 0, 1) := by decide +kernel
theorem dX12_childOn_273 : decode cX12_childOn 273 = .ok (.istore 5, 2) := by decide +kernel
theorem dX12_childOn_275 : decode cX12_childOn 275 = .ok (.iload 5, 2) := by decide +kernel
theorem dX12_childOn_277 : decode cX12_childOn 277 = .ok (.iload_n 1, 1) := by decide +kernel
theorem dX12_childOn_278 : decode cX12_childOn 278 = .ok (.if_icmp .ge 59, 3) := by decide +kernel
theorem dX12_childOn_281 : decode cX12_childOn 281 = .ok (.aload_n 0, 1) := by decide +kernel
theorem dX12_childOn_282 : decode cX12_childOn 282 = .ok (.getfield 147, 3) := by decide +kernel
theorem dX12_childOn_285 : decode cX12_childOn 285 = .ok (.iload_n 3, 1) := by decide +kernel
theorem dX12_childOn_286 : decode cX12_childOn 286 = .ok (.iaload, 1) := by decide +kernel
theorem dX12_childOn_287 : decode cX12_childOn 287 = .ok (.iconst (-1), 1) := by decide +kernel
theorem dX12_childOn_288 : decode cX12_childOn 288 = .ok (.if_icmp .eq 43, 3) := by decide +kernel
theorem dX12_childOn_291 : decode cX12_childOn 291 = .ok (.aload_n 0, 1) := by decide +kernel
theorem dX12_childOn_292 : decode cX12_childOn 292 = .ok (.getfield 147, 3) := by decide +kernel
theorem dX12_childOn_295 : decode cX12_childOn 295 = .ok (.bipush 8, 2) := by decide +kernel
theorem dX12_childOn_297 : decode cX12_childOn 297 = .ok (.iload 5, 2) := by decide +kernel
theorem dX12_childOn_299 : decode cX12_childOn 299 = .ok (.iadd, 1) := by decide +kernel
theorem dX12_childOn_300 : decode cX12_childOn 300 = .ok (.iaload, 1) := by decide +kernel
theorem dX12_childOn_301 : decode cX12_childOn 301 = .ok (.aload_n 0, 1) := by decide +kernel
theorem dX12_childOn_302 : decode cX12_childOn 302 = .ok (.getfield 147, 3) := by decide +kernel
theorem dX12_childOn_305 : decode cX12_childOn 305 = .ok (.iload_n 3, 1) := by decide +kernel
theorem dX12_childOn_306 : decode cX12_childOn 306 = .ok (.iaload, 1) := by decide +kernel
theorem dX12_childOn_307 : decode cX12_childOn 307 = .ok (.if_icmp .ne 24, 3) := by decide +kernel
theorem dX12_childOn_310 : decode cX12_childOn 310 = .ok (.aload_n 0, 1) := by decide +kernel
theorem dX12_childOn_311 : decode cX12_childOn 311 = .ok (.getfield 150, 3) := by decide +kernel
theorem dX12_childOn_314 : decode cX12_childOn 314 = .ok (.bipush 8, 2) := by decide +kernel
theorem dX12_childOn_316 : decode cX12_childOn 316 = .ok (.iload 5, 2) := by decide +kernel
theorem dX12_childOn_318 : decode cX12_childOn 318 = .ok (.iadd, 1) := by decide +kernel
theorem dX12_childOn_319 : decode cX12_childOn 319 = .ok (.iaload, 1) := by decide +kernel
theorem dX12_childOn_320 : decode cX12_childOn 320 = .ok (.aload_n 0, 1) := by decide +kernel
theorem dX12_childOn_321 : decode cX12_childOn 321 = .ok (.getfield 150, 3) := by decide +kernel
theorem dX12_childOn_324 : decode cX12_childOn 324 = .ok (.iload_n 3, 1) := by decide +kernel
theorem dX12_childOn_325 : decode cX12_childOn 325 = .ok (.iaload, 1) := by decide +kernel
theorem dX12_childOn_326 : decode cX12_childOn 326 = .ok (.if_icmp .ne 5, 3) := by decide +kernel
theorem dX12_childOn_329 : decode cX12_childOn 329 = .ok (.iconst 0, 1) := by decide +kernel
theorem dX12_childOn_330 : decode cX12_childOn 330 = .ok (.ireturn, 1) := by decide +kernel
theorem dX12_childOn_331 : decode cX12_childOn 331 = .ok (.iinc 5 1, 3) := by decide +kernel
theorem dX12_childOn_334 : decode cX12_childOn 334 = .ok (.goto (-59), 3) := by decide +kernel
theorem dX12_childOn_337 : decode cX12_childOn 337 = .ok (.iconst 1, 1) := by decide +kernel
theorem dX12_childOn_338 : decode cX12_childOn 338 = .ok (.ireturn, 1) := by decide +kernel
theorem dX12_areStuck_0 : decode cX12_areStuck 0 = .ok (.iconst 0, 1) := by decide +kernel
theorem dX12_areStuck_1 : decode cX12_areStuck 1 = .ok (.istore_n 1, 1) := by decide +kernel
theorem dX12_areStuck_2 : decode cX12_areStuck 2 = .ok (.iload_n 1, 1) := by decide +kernel
theorem dX12_areStuck_3 : decode cX12_areStuck 3 = .ok (.aload_n 0, 1) := by decide +kernel
theorem dX12_areStuck_4 : decode cX12_areStuck 4 = .ok (.getfield 54, 3) := by decide +kernel
theorem dX12_areStuck_7 : decode cX12_areStuck 7 = .ok (.aload_n 0, 1) := by decide +kernel
theorem dX12_areStuck_8 : decode cX12_areStuck 8 = .ok (.getfield 51, 3) := by decide +kernel
theorem dX12_areStuck_11 : decode cX12_areStuck 11 = .ok (.iaload, 1) := by decide +kernel
theorem dX12_areStuck_12 : decode cX12_areStuck 12 = .ok (.if_icmp .ge 86, 3) := by decide +kernel
theorem dX12_areStuck_15 : decode cX12_areStuck 15 = .ok (.iconst 0, 1) := by decide +kernel
theorem dX12_areStuck_16 : decode cX12_areStuck 16 = .ok (.istore_n 2, 1) := by decide +kernel
theorem dX12_areStuck_17 : decode cX12_areStuck 17 = .ok (.iload_n 2, 1) := by decide +kernel
theorem dX12_areStuck_18 : decode cX12_areStuck 18 = .ok (.bipush 8, 2) := by decide +kernel
theorem dX12_areStuck_20 : decode cX12_areStuck 20 = .ok (.if_icmp .ge 72, 3) := by decide +kernel
theorem dX12_areStuck_23 : decode cX12_areStuck 23 = .ok (.aload_n 0, 1) := by decide +kernel
theorem dX12_areStuck_24 : decode cX12_areStuck 24 = .ok (.getfield 156, 3) := by decide +kernel
theorem dX12_areStuck_27 : decode cX12_areStuck 27 = .ok (.bipush 8, 2) := by decide +kernel
theorem dX12_areStuck_29 : decode cX12_areStuck 29 = .ok (.iload_n 1, 1) := by decide +kernel
theorem dX12_areStuck_30 : decode cX12_areStuck 30 = .ok (.iadd, 1) := by decide +kernel
theorem dX12_areStuck_31 : decode cX12_areStuck 31 = .ok (.iaload, 1) := by decide +kernel
theorem dX12_areStuck_32 : decode cX12_areStuck 32 = .ok (.iload_n 2, 1) := by decide +kernel
theorem dX12_areStuck_33 : decode cX12_areStuck 33 = .ok (.invokestatic 458, 3) := by decide +kernel
theorem dX12_areStuck_36 : decode cX12_areStuck 36 = .ok (.ifCond .ne 6, 3) := by decide +kernel
theorem dX12_areStuck_39 : decode cX12_areStuck 39 = .ok (.goto 47, 3) := by decide +kernel
theorem dX12_areStuck_42 : decode cX12_areStuck 42 = .ok (.iload_n 1, 1) := by decide +kernel
theorem dX12_areStuck_43 : decode cX12_areStuck 43 = .ok (.iload_n 2, 1) := by decide +kernel
theorem dX12_areStuck_44 : decode cX12_areStuck 44 = .ok (.if_icmp .eq 40, 3) := by decide +kernel
theorem dX12_areStuck_47 : decode cX12_areStuck 47 = .ok (.aload_n 0, 1) := by decide +kernel
theorem dX12_areStuck_48 : decode cX12_areStuck 48 = .ok (.iload_n 2, 1) := by decide +kernel
theorem dX12_areStuck_49 : decode cX12_areStuck 49 = .ok (.invokevirtual 453, 3) := by decide +kernel
theorem dX12_areStuck_52 : decode cX12_areStuck 52 = .ok (.ifCond .eq 32, 3) := by decide +kernel
theorem dX12_areStuck_55 : decode cX12_areStuck 55 = .ok (.aload_n 0, 1) := by decide +kernel
theorem dX12_areStuck_56 : decode cX12_areStuck 56 = .ok (.getfield 153, 3) := by decide +kernel
theorem dX12_areStuck_59 : decode cX12_areStuck 59 = .ok (.bipush 8, 2) := by decide +kernel
theorem dX12_areStuck_61 : decode cX12_areStuck 61 = .ok (.iload_n 2, 1) := by decide +kernel
theorem dX12_areStuck_62 : decode cX12_areStuck 62 = .ok (.iadd, 1) := by decide +kernel
theorem dX12_areStuck_63 : decode cX12_areStuck 63 = .ok (.iaload, 1) := by decide +kernel
theorem dX12_areStuck_64 : decode cX12_areStuck 64 = .ok (.iconst (-1), 1) := by decide +kernel
theorem dX12_areStuck_65 : decode cX12_areStuck 65 = .ok (.if_icmp .eq 19, 3) := by decide +kernel
theorem dX12_areStuck_68 : decode cX12_areStuck 68 = .ok (.aload_n 0, 1) := by decide +kernel
theorem dX12_areStuck_69 : decode cX12_areStuck 69 = .ok (.getfield 156, 3) := by decide +kernel
theorem dX12_areStuck_72 : decode cX12_areStuck 72 = .ok (.bipush 8, 2) := by decide +kernel
theorem dX12_areStuck_74 : decode cX12_areStuck 74 = .ok (.iload_n 2, 1) := by decide +kernel
theorem dX12_areStuck_75 : decode cX12_areStuck 75 = .ok (.iadd, 1) := by decide +kernel
theorem dX12_areStuck_76 : decode cX12_areStuck 76 = .ok (.iaload, 1) := by decide +kernel
theorem dX12_areStuck_77 : decode cX12_areStuck 77 = .ok (.iload_n 1, 1) := by decide +kernel
theorem dX12_areStuck_78 : decode cX12_areStuck 78 = .ok (.invokestatic 458, 3) := by decide +kernel
theorem dX12_areStuck_81 : decode cX12_areStuck 81 = .ok (.ifCond .ne 5, 3) := by decide +kernel
theorem dX12_areStuck_84 : decode cX12_areStuck 84 = .ok (.iconst 0, 1) := by decide +kernel
theorem dX12_areStuck_85 : decode cX12_areStuck 85 = .ok (.ireturn, 1) := by decide +kernel
theorem dX12_areStuck_86 : decode cX12_areStuck 86 = .ok (.iinc 2 1, 3) := by decide +kernel
theorem dX12_areStuck_89 : decode cX12_areStuck 89 = .ok (.goto (-72), 3) := by decide +kernel
theorem dX12_areStuck_92 : decode cX12_areStuck 92 = .ok (.iinc 1 1, 3) := by decide +kernel
theorem dX12_areStuck_95 : decode cX12_areStuck 95 = .ok (.goto (-93), 3) := by decide +kernel
theorem dX12_areStuck_98 : decode cX12_areStuck 98 = .ok (.iconst 1, 1) := by decide +kernel
theorem dX12_areStuck_99 : decode cX12_areStuck 99 = .ok (.ireturn, 1) := by decide +kernel
theorem dX12_comesOn_0 : decode cX12_comesOn 0 = .ok (.iconst 4, 1) := by decide +kernel
theorem dX12_comesOn_1 : decode cX12_comesOn 1 = .ok (.bipush 6, 2) := by decide +kernel
theorem dX12_comesOn_3 : decode cX12_comesOn 3 = .ok (.aload_n 0, 1) := by decide +kernel
theorem dX12_comesOn_4 : decode cX12_comesOn 4 = .ok (.getfield 54, 3) := by decide +kernel
theorem dX12_comesOn_7 : decode cX12_comesOn 7 = .ok (.aload_n 0, 1) := by decide +kernel
theorem dX12_comesOn_8 : decode cX12_comesOn 8 = .ok (.getfield 51, 3) := by decide +kernel
theorem dX12_comesOn_11 : decode cX12_comesOn 11 = .ok (.iaload, 1) := by decide +kernel
theorem dX12_comesOn_12 : decode cX12_comesOn 12 = .ok (.imul, 1) := by decide +kernel
theorem dX12_comesOn_13 : decode cX12_comesOn 13 = .ok (.iadd, 1) := by decide +kernel
theorem dX12_comesOn_14 : decode cX12_comesOn 14 = .ok (.istore_n 2, 1) := by decide +kernel
theorem dX12_comesOn_15 : decode cX12_comesOn 15 = .ok (.iload_n 1, 1) := by decide +kernel
theorem dX12_comesOn_16 : decode cX12_comesOn 16 = .ok (.iload_n 2, 1) := by decide +kernel
theorem dX12_comesOn_17 : decode cX12_comesOn 17 = .ok (.aload_n 0, 1) := by decide +kernel
theorem dX12_comesOn_18 : decode cX12_comesOn 18 = .ok (.getfield 63, 3) := by decide +kernel
theorem dX12_comesOn_21 : decode cX12_comesOn 21 = .ok (.aload_n 0, 1) := by decide +kernel
theorem dX12_comesOn_22 : decode cX12_comesOn 22 = .ok (.getfield 51, 3) := by decide +kernel
theorem dX12_comesOn_25 : decode cX12_comesOn 25 = .ok (.iaload, 1) := by decide +kernel
theorem dX12_comesOn_26 : decode cX12_comesOn 26 = .ok (.iadd, 1) := by decide +kernel
theorem dX12_comesOn_27 : decode cX12_comesOn 27 = .ok (.iconst 1, 1) := by decide +kernel
theorem dX12_comesOn_28 : decode cX12_comesOn 28 = .ok (.iadd, 1) := by decide +kernel
theorem dX12_comesOn_29 : decode cX12_comesOn 29 = .ok (.if_icmp .ne 47, 3) := by decide +kernel
theorem dX12_comesOn_32 : decode cX12_comesOn 32 = .ok (.aload_n 0, 1) := by decide +kernel
theorem dX12_comesOn_33 : decode cX12_comesOn 33 = .ok (.getfield 7, 3) := by decide +kernel
theorem dX12_comesOn_36 : decode cX12_comesOn 36 = .ok (.iconst 0, 1) := by decide +kernel
theorem dX12_comesOn_37 : decode cX12_comesOn 37 = .ok (.iaload, 1) := by decide +kernel
theorem dX12_comesOn_38 : decode cX12_comesOn 38 = .ok (.bipush 8, 2) := by decide +kernel
theorem dX12_comesOn_40 : decode cX12_comesOn 40 = .ok (.ishl, 1) := by decide +kernel
theorem dX12_comesOn_41 : decode cX12_comesOn 41 = .ok (.aload_n 0, 1) := by decide +kernel
theorem dX12_comesOn_42 : decode cX12_comesOn 42 = .ok (.getfield 7, 3) := by decide +kernel
theorem dX12_comesOn_45 : decode cX12_comesOn 45 = .ok (.iconst 1, 1) := by decide +kernel
theorem dX12_comesOn_46 : decode cX12_comesOn 46 = .ok (.iaload, 1) := by decide +kernel
theorem dX12_comesOn_47 : decode cX12_comesOn 47 = .ok (.ior, 1) := by decide +kernel
theorem dX12_comesOn_48 : decode cX12_comesOn 48 = .ok (.sipush 999, 3) := by decide +kernel
theorem dX12_comesOn_51 : decode cX12_comesOn 51 = .ok (.if_icmp .gt 25, 3) := by decide +kernel
theorem dX12_comesOn_54 : decode cX12_comesOn 54 = .ok (.aload_n 0, 1) := by decide +kernel
theorem dX12_comesOn_55 : decode cX12_comesOn 55 = .ok (.getfield 7, 3) := by decide +kernel
theorem dX12_comesOn_58 : decode cX12_comesOn 58 = .ok (.iconst 2, 1) := by decide +kernel
theorem dX12_comesOn_59 : decode cX12_comesOn 59 = .ok (.iaload, 1) := by decide +kernel
theorem dX12_comesOn_60 : decode cX12_comesOn 60 = .ok (.bipush 8, 2) := by decide +kernel
theorem dX12_comesOn_62 : decode cX12_comesOn 62 = .ok (.ishl, 1) := by decide +kernel
theorem dX12_comesOn_63 : decode cX12_comesOn 63 = .ok (.aload_n 0, 1) := by decide +kernel
theorem dX12_comesOn_64 : decode cX12_comesOn 64 = .ok (.getfield 7, 3) := by decide +kernel
theorem dX12_comesOn_67 : decode cX12_comesOn 67 = .ok (.iconst 3, 1) := by decide +kernel
theorem dX12_comesOn_68 : decode cX12_comesOn 68 = .ok (.iaload, 1) := by decide +kernel
theorem dX12_comesOn_69 : decode cX12_comesOn 69 = .ok (.ior, 1) := by decide +kernel
theorem dX12_comesOn_70 : decode cX12_comesOn 70 = .ok (.sipush 9999, 3) := by decide +kernel
theorem dX12_comesOn_73 : decode cX12_comesOn 73 = .ok (.if_icmp .le 5, 3) := by decide +kernel
theorem dX12_comesOn_76 : decode cX12_comesOn 76 = .ok (.iconst 0, 1) := by decide +kernel
theorem dX12_comesOn_77 : decode cX12_comesOn 77 = .ok (.ireturn, 1) := by decide +kernel
theorem dX12_comesOn_78 : decode cX12_comesOn 78 = .ok (.sipush 241, 3) := by decide +kernel
theorem dX12_comesOn_81 : decode cX12_comesOn 81 = .ok (.istore_n 3, 1) := by decide +kernel
theorem dX12_comesOn_82 : decode cX12_comesOn 82 = .ok (.iconst 0, 1) := by decide +kernel
theorem dX12_comesOn_83 : decode cX12_comesOn 83 = .ok (.istore 4, 2) := by decide +kernel
theorem dX12_comesOn_85 : decode cX12_comesOn 85 = .ok (.iload 4, 2) := by decide +kernel
theorem dX12_comesOn_87 : decode cX12_comesOn 87 = .ok (.iload_n 1, 1) := by decide +kernel
theorem dX12_comesOn_88 : decode cX12_comesOn 88 = .ok (.iconst 1, 1) := by decide +kernel
theorem dX12_comesOn_89 : decode cX12_comesOn 89 = .ok (.isub, 1) := by decide +kernel
theorem dX12_comesOn_90 : decode cX12_comesOn 90 = .ok (.if_icmp .ge 25, 3) := by decide +kernel
theorem dX12_comesOn_93 : decode cX12_comesOn 93 = .ok (.iconst 5, 1) := by decide +kernel
theorem dX12_comesOn_94 : decode cX12_comesOn 94 = .ok (.iload_n 3, 1) := by decide +kernel
theorem dX12_comesOn_95 : decode cX12_comesOn 95 = .ok (.imul, 1) := by decide +kernel
theorem dX12_comesOn_96 : decode cX12_comesOn 96 = .ok (.aload_n 0, 1) := by decide +kernel
theorem dX12_comesOn_97 : decode cX12_comesOn 97 = .ok (.getfield 7, 3) := by decide +kernel
theorem dX12_comesOn_100 : decode cX12_comesOn 100 = .ok (.iload 4, 2) := by decide +kernel
theorem dX12_comesOn_102 : decode cX12_comesOn 102 = .ok (.iaload, 1) := by decide +kernel
theorem dX12_comesOn_103 : decode cX12_comesOn 103 = .ok (.iadd, 1) := by decide +kernel
theorem dX12_comesOn_104 : decode cX12_comesOn 104 = .ok (.sipush 251, 3) := by decide +kernel
theorem dX12_comesOn_107 : decode cX12_comesOn 107 = .ok (.irem, 1) := by decide +kernel
theorem dX12_comesOn_108 : decode cX12_comesOn 108 = .ok (.istore_n 3, 1) := by decide +kernel
theorem dX12_comesOn_109 : decode cX12_comesOn 109 = .ok (.iinc 4 1, 3) := by decide +kernel
theorem dX12_comesOn_112 : decode cX12_comesOn 112 = .ok (.goto (-27), 3) := by decide +kernel
theorem dX12_comesOn_115 : decode cX12_comesOn 115 = .ok (.aload_n 0, 1) := by decide +kernel
theorem dX12_comesOn_116 : decode cX12_comesOn 116 = .ok (.getfield 7, 3) := by decide +kernel
theorem dX12_comesOn_119 : decode cX12_comesOn 119 = .ok (.iload_n 1, 1) := by decide +kernel
theorem dX12_comesOn_120 : decode cX12_comesOn 120 = .ok (.iconst 1, 1) := by decide +kernel
theorem dX12_comesOn_121 : decode cX12_comesOn 121 = .ok (.isub, 1) := by decide +kernel
theorem dX12_comesOn_122 : decode cX12_comesOn 122 = .ok (.iaload, 1) := by decide +kernel
theorem dX12_comesOn_123 : decode cX12_comesOn 123 = .ok (.iload_n 3, 1) := by decide +kernel
theorem dX12_comesOn_124 : decode cX12_comesOn 124 = .ok (.if_icmp .eq 5, 3) := by decide +kernel
theorem dX12_comesOn_127 : decode cX12_comesOn 127 = .ok (.iconst 0, 1) := by decide +kernel
theorem dX12_comesOn_128 : decode cX12_comesOn 128 = .ok (.ireturn, 1) := by decide +kernel
theorem dX12_comesOn_129 : decode cX12_comesOn 129 = .ok (.aload_n 0, 1) := by decide +kernel
theorem dX12_comesOn_130 : decode cX12_comesOn 130 = .ok (.iconst 1, 1) := by decide +kernel
theorem dX12_comesOn_131 : decode cX12_comesOn 131 = .ok (.iconst 0, 1) := by decide +kernel
theorem dX12_comesOn_132 : decode cX12_comesOn 132 = .ok (.invokevirtual 386, 3) := by decide +kernel
theorem dX12_comesOn_135 : decode cX12_comesOn 135 = .ok (.aload_n 0, 1) := by decide +kernel
theorem dX12_comesOn_136 : decode cX12_comesOn 136 = .ok (.getfield 141, 3) := by decide +kernel
theorem dX12_comesOn_139 : decode cX12_comesOn 139 = .ok (.iconst 1, 1) := by decide +kernel
theorem dX12_comesOn_140 : decode cX12_comesOn 140 = .ok (.aload_n 0, 1) := by decide +kernel
theorem dX12_comesOn_141 : decode cX12_comesOn 141 = .ok (.getfield 7, 3) := by decide +kernel
theorem dX12_comesOn_144 : decode cX12_comesOn 144 = .ok (.iconst 0, 1) := by decide +kernel
theorem dX12_comesOn_145 : decode cX12_comesOn 145 = .ok (.iaload, 1) := by decide +kernel
theorem dX12_comesOn_146 : decode cX12_comesOn 146 = .ok (.bipush 8, 2) := by decide +kernel
theorem dX12_comesOn_148 : decode cX12_comesOn 148 = .ok (.ishl, 1) := by decide +kernel
theorem dX12_comesOn_149 : decode cX12_comesOn 149 = .ok (.aload_n 0, 1) := by decide +kernel
theorem dX12_comesOn_150 : decode cX12_comesOn 150 = .ok (.getfield 7, 3) := by decide +kernel
theorem dX12_comesOn_153 : decode cX12_comesOn 153 = .ok (.iconst 1, 1) := by decide +kernel
theorem dX12_comesOn_154 : decode cX12_comesOn 154 = .ok (.iaload, 1) := by decide +kernel
theorem dX12_comesOn_155 : decode cX12_comesOn 155 = .ok (.ior, 1) := by decide +kernel
theorem dX12_comesOn_156 : decode cX12_comesOn 156 = .ok (.iastore, 1) := by decide +kernel
theorem dX12_comesOn_157 : decode cX12_comesOn 157 = .ok (.aload_n 0, 1) := by decide +kernel
theorem dX12_comesOn_158 : decode cX12_comesOn 158 = .ok (.getfield 144, 3) := by decide +kernel
theorem dX12_comesOn_161 : decode cX12_comesOn 161 = .ok (.iconst 1, 1) := by decide +kernel
theorem dX12_comesOn_162 : decode cX12_comesOn 162 = .ok (.aload_n 0, 1) := by decide +kernel
theorem dX12_comesOn_163 : decode cX12_comesOn 163 = .ok (.getfield 7, 3) := by decide +kernel
theorem dX12_comesOn_166 : decode cX12_comesOn 166 = .ok (.iconst 2, 1) := by decide +kernel
theorem dX12_comesOn_167 : decode cX12_comesOn 167 = .ok (.iaload, 1) := by decide +kernel
theorem dX12_comesOn_168 : decode cX12_comesOn 168 = .ok (.bipush 8, 2) := by decide +kernel
theorem dX12_comesOn_170 : decode cX12_comesOn 170 = .ok (.ishl, 1) := by decide +kernel
theorem dX12_comesOn_171 : decode cX12_comesOn 171 = .ok (.aload_n 0, 1) := by decide +kernel
theorem dX12_comesOn_172 : decode cX12_comesOn 172 = .ok (.getfield 7, 3) := by decide +kernel
theorem dX12_comesOn_175 : decode cX12_comesOn 175 = .ok (.iconst 3, 1) := by decide +kernel
theorem dX12_comesOn_176 : decode cX12_comesOn 176 = .ok (.iaload, 1) := by decide +kernel
theorem dX12_comesOn_177 : decode cX12_comesOn 177 = .ok (.ior, 1) := by decide +kernel
theorem dX12_comesOn_178 : decode cX12_comesOn 178 = .ok (.iastore, 1) := by decide +kernel
theorem dX12_comesOn_179 : decode cX12_comesOn 179 = .ok (.aload_n 0, 1) := by decide +kernel
theorem dX12_comesOn_180 : decode cX12_comesOn 180 = .ok (.getfield 159, 3) := by decide +kernel
theorem dX12_comesOn_183 : decode cX12_comesOn 183 = .ok (.iconst 1, 1) := by decide +kernel
theorem dX12_comesOn_184 : decode cX12_comesOn 184 = .ok (.iconst 0, 1) := by decide +kernel
theorem dX12_comesOn_185 : decode cX12_comesOn 185 = .ok (.iastore, 1) := by decide +kernel
theorem dX12_comesOn_186 : decode cX12_comesOn 186 = .ok (.aload_n 0, 1) := by decide +kernel
theorem dX12_comesOn_187 : decode cX12_comesOn 187 = .ok (.getfield 165, 3) := by decide +kernel
theorem dX12_comesOn_190 : decode cX12_comesOn 190 = .ok (.iconst 1, 1) := by decide +kernel
theorem dX12_comesOn_191 : decode cX12_comesOn 191 = .ok (.iconst 0, 1) := by decide +kernel
theorem dX12_comesOn_192 : decode cX12_comesOn 192 = .ok (.iastore, 1) := by decide +kernel
theorem dX12_comesOn_193 : decode cX12_comesOn 193 = .ok (.iconst 0, 1) := by decide +kernel
theorem dX12_comesOn_194 : decode cX12_comesOn 194 = .ok (.istore 4, 2) := by decide +kernel
theorem dX12_comesOn_196 : decode cX12_comesOn 196 = .ok (.iload 4, 2) := by decide +kernel
theorem dX12_comesOn_198 : decode cX12_comesOn 198 = .ok (.aload_n 0, 1) := by decide +kernel
theorem dX12_comesOn_199 : decode cX12_comesOn 199 = .ok (.getfield 54, 3) := by decide +kernel
theorem dX12_comesOn_202 : decode cX12_comesOn 202 = .ok (.aload_n 0, 1) := by decide +kernel
theorem dX12_comesOn_203 : decode cX12_comesOn 203 = .ok (.getfield 51, 3) := by decide +kernel
theorem dX12_comesOn_206 : decode cX12_comesOn 206 = .ok (.iaload, 1) := by decide +kernel
theorem dX12_comesOn_207 : decode cX12_comesOn 207 = .ok (.if_icmp .ge 27, 3) := by decide +kernel
theorem dX12_comesOn_210 : decode cX12_comesOn 210 = .ok (.aload_n 0, 1) := by decide +kernel
theorem dX12_comesOn_211 : decode cX12_comesOn 211 = .ok (.iload 4, 2) := by decide +kernel
theorem dX12_comesOn_213 : decode cX12_comesOn 213 = .ok (.iconst 4, 1) := by decide +kernel
theorem dX12_comesOn_214 : decode cX12_comesOn 214 = .ok (.bipush 6, 2) := by decide +kernel
theorem dX12_comesOn_216 : decode cX12_comesOn 216 = .ok (.iload 4, 2) := by decide +kernel
theorem dX12_comesOn_218 : decode cX12_comesOn 218 = .ok (.imul, 1) := by decide +kernel
theorem dX12_comesOn_219 : decode cX12_comesOn 219 = .ok (.iadd, 1) := by decide +kernel
theorem dX12_comesOn_220 : decode cX12_comesOn 220 = .ok (.invokevirtual 517, 3) := by decide +kernel
theorem dX12_comesOn_223 : decode cX12_comesOn 223 = .ok (.ifCond .ne 5, 3) := by decide +kernel
theorem dX12_comesOn_226 : decode cX12_comesOn 226 = .ok (.iconst 0, 1) := by decide +kernel
theorem dX12_comesOn_227 : decode cX12_comesOn 227 = .ok (.ireturn, 1) := by decide +kernel
theorem dX12_comesOn_228 : decode cX12_comesOn 228 = .ok (.iinc 4 1, 3) := by decide +kernel
theorem dX12_comesOn_231 : decode cX12_comesOn 231 = .ok (.goto (-35), 3) := by decide +kernel
theorem dX12_comesOn_234 : decode cX12_comesOn 234 = .ok (.iconst 0, 1) := by decide +kernel
theorem dX12_comesOn_235 : decode cX12_comesOn 235 = .ok (.istore 4, 2) := by decide +kernel
theorem dX12_comesOn_237 : decode cX12_comesOn 237 = .ok (.iload 4, 2) := by decide +kernel
theorem dX12_comesOn_239 : decode cX12_comesOn 239 = .ok (.aload_n 0, 1) := by decide +kernel
theorem dX12_comesOn_240 : decode cX12_comesOn 240 = .ok (.getfield 63, 3) := by decide +kernel
theorem dX12_comesOn_243 : decode cX12_comesOn 243 = .ok (.aload_n 0, 1) := by decide +kernel
theorem dX12_comesOn_244 : decode cX12_comesOn 244 = .ok (.getfield 51, 3) := by decide +kernel
theorem dX12_comesOn_247 : decode cX12_comesOn 247 = .ok (.iaload, 1) := by decide +kernel
theorem dX12_comesOn_248 : decode cX12_comesOn 248 = .ok (.if_icmp .ge 61, 3) := by decide +kernel
theorem dX12_comesOn_251 : decode cX12_comesOn 251 = .ok (.aload_n 0, 1) := by decide +kernel
theorem dX12_comesOn_252 : decode cX12_comesOn 252 = .ok (.getfield 7, 3) := by decide +kernel
theorem dX12_comesOn_255 : decode cX12_comesOn 255 = .ok (.iload_n 2, 1) := by decide +kernel
theorem dX12_comesOn_256 : decode cX12_comesOn 256 = .ok (.iload 4, 2) := by decide +kernel
theorem dX12_comesOn_258 : decode cX12_comesOn 258 = .ok (.iadd, 1) := by decide +kernel
theorem dX12_comesOn_259 : decode cX12_comesOn 259 = .ok (.iaload, 1) := by decide +kernel
theorem dX12_comesOn_260 : decode cX12_comesOn 260 = .ok (.bipush 20, 2) := by decide +kernel
theorem dX12_comesOn_262 : decode cX12_comesOn 262 = .ok (.if_icmp .le 20, 3) := by decide +kernel
theorem dX12_comesOn_265 : decode cX12_comesOn 265 = .ok (.aload_n 0, 1) := by decide +kernel
theorem dX12_comesOn_266 : decode cX12_comesOn 266 = .ok (.getfield 7, 3) := by decide +kernel
theorem dX12_comesOn_269 : decode cX12_comesOn 269 = .ok (.iload_n 2, 1) := by decide +kernel
theorem dX12_comesOn_270 : decode cX12_comesOn 270 = .ok (.iload 4, 2) := by decide +kernel
theorem dX12_comesOn_272 : decode cX12_comesOn 272 = .ok (.iadd, 1) := by decide +kernel
theorem dX12_comesOn_273 : decode cX12_comesOn 273 = .ok (.iaload, 1) := by decide +kernel
theorem dX12_comesOn_274 : decode cX12_comesOn 274 = .ok (.sipush 255, 3) := by decide +kernel
theorem dX12_comesOn_277 : decode cX12_comesOn 277 = .ok (.if_icmp .eq 5, 3) := by decide +kernel
theorem dX12_comesOn_280 : decode cX12_comesOn 280 = .ok (.iconst 0, 1) := by decide +kernel
theorem dX12_comesOn_281 : decode cX12_comesOn 281 = .ok (.ireturn, 1) := by decide +kernel
theorem dX12_comesOn_282 : decode cX12_comesOn 282 = .ok (.aload_n 0, 1) := by decide +kernel
theorem dX12_comesOn_283 : decode cX12_comesOn 283 = .ok (.getfield 162, 3) := by decide +kernel
theorem dX12_comesOn_286 : decode cX12_comesOn 286 = .ok (.iconst 3, 1) := by decide +kernel
theorem dX12_comesOn_287 : decode cX12_comesOn 287 = .ok (.iload 4, 2) := by decide +kernel
theorem dX12_comesOn_289 : decode cX12_comesOn 289 = .ok (.iadd, 1) := by decide +kernel
theorem dX12_comesOn_290 : decode cX12_comesOn 290 = .ok (.aload_n 0, 1) := by decide +kernel
theorem dX12_comesOn_291 : decode cX12_comesOn 291 = .ok (.getfield 7, 3) := by decide +kernel
theorem dX12_comesOn_294 : decode cX12_comesOn 294 = .ok (.iload_n 2, 1) := by decide +kernel
theorem dX12_comesOn_295 : decode cX12_comesOn 295 = .ok (.iload 4, 2) := by decide +kernel
theorem dX12_comesOn_297 : decode cX12_comesOn 297 = .ok (.iadd, 1) := by decide +kernel
theorem dX12_comesOn_298 : decode cX12_comesOn 298 = .ok (.iaload, 1) := by decide +kernel
theorem dX12_comesOn_299 : decode cX12_comesOn 299 = .ok (.invokestatic 514, 3) := by decide +kernel
theorem dX12_comesOn_302 : decode cX12_comesOn 302 = .ok (.iastore, 1) := by decide +kernel
theorem dX12_comesOn_303 : decode cX12_comesOn 303 = .ok (.iinc 4 1, 3) := by decide +kernel
theorem dX12_comesOn_306 : decode cX12_comesOn 306 = .ok (.goto (-69), 3) := by decide +kernel
theorem dX12_comesOn_309 : decode cX12_comesOn 309 = .ok (.aload_n 0, 1) := by decide +kernel
theorem dX12_comesOn_310 : decode cX12_comesOn 310 = .ok (.invokevirtual 520, 3) := by decide +kernel
theorem dX12_comesOn_313 : decode cX12_comesOn 313 = .ok (.ireturn, 1) := by decide +kernel
theorem dX12_on_0 : decode cX12_on 0 = .ok (.aload_n 0, 1) := by decide +kernel
theorem dX12_on_1 : decode cX12_on 1 = .ok (.getfield 13, 3) := by decide +kernel
theorem dX12_on_4 : decode cX12_on 4 = .ok (.istore_n 1, 1) := by decide +kernel
theorem dX12_on_5 : decode cX12_on 5 = .ok (.aload_n 0, 1) := by decide +kernel
theorem dX12_on_6 : decode cX12_on 6 = .ok (.iconst 0, 1) := by decide +kernel
theorem dX12_on_7 : decode cX12_on 7 = .ok (.putfield 13, 3) := by decide +kernel
theorem dX12_on_10 : decode cX12_on 10 = .ok (.aload_n 0, 1) := by decide +kernel
theorem dX12_on_11 : decode cX12_on 11 = .ok (.iload_n 1, 1) := by decide +kernel
theorem dX12_on_12 : decode cX12_on 12 = .ok (.invokevirtual 523, 3) := by decide +kernel
theorem dX12_on_15 : decode cX12_on 15 = .ok (.ifCond .ne 17, 3) := by decide +kernel
theorem dX12_on_18 : decode cX12_on 18 = .ok (.aload_n 0, 1) := by decide +kernel
theorem dX12_on_19 : decode cX12_on 19 = .ok (.iconst 5, 1) := by decide +kernel
theorem dX12_on_20 : decode cX12_on 20 = .ok (.invokevirtual 216, 3) := by decide +kernel
theorem dX12_on_23 : decode cX12_on 23 = .ok (.ifCond .lt 7, 3) := by decide +kernel
theorem dX12_on_26 : decode cX12_on 26 = .ok (.iconst 1, 1) := by decide +kernel
theorem dX12_on_27 : decode cX12_on 27 = .ok (.goto 4, 3) := by decide +kernel
theorem dX12_on_30 : decode cX12_on 30 = .ok (.iconst 0, 1) := by decide +kernel
theorem dX12_on_31 : decode cX12_on 31 = .ok (.ireturn, 1) := by decide +kernel
theorem dX12_on_32 : decode cX12_on 32 = .ok (.aload_n 0, 1) := by decide +kernel
theorem dX12_on_33 : decode cX12_on 33 = .ok (.iconst 0, 1) := by decide +kernel
theorem dX12_on_34 : decode cX12_on 34 = .ok (.iconst 1, 1) := by decide +kernel
theorem dX12_on_35 : decode cX12_on 35 = .ok (.invokevirtual 386, 3) := by decide +kernel
theorem dX12_on_38 : decode cX12_on 38 = .ok (.aload_n 0, 1) := by decide +kernel
theorem dX12_on_39 : decode cX12_on 39 = .ok (.iconst 0, 1) := by decide +kernel
theorem dX12_on_40 : decode cX12_on 40 = .ok (.putfield 174, 3) := by decide +kernel
theorem dX12_on_43 : decode cX12_on 43 = .ok (.iconst 1, 1) := by decide +kernel
theorem dX12_on_44 : decode cX12_on 44 = .ok (.ireturn, 1) := by decide +kernel
theorem dJ6_bitCount_0f7a4_0 : decode cJ6_bitCount_0f7a4 0 = .ok (.iload_n 0, 1) := by decide +kernel
theorem dJ6_bitCount_0f7a4_1 : decode cJ6_bitCount_0f7a4 1 = .ok (.iload_n 0, 1) := by decide +kernel
theorem dJ6_bitCount_0f7a4_2 : decode cJ6_bitCount_0f7a4 2 = .ok (.iconst 1, 1) := by decide +kernel
theorem dJ6_bitCount_0f7a4_3 : decode cJ6_bitCount_0f7a4 3 = .ok (.iushr, 1) := by decide +kernel
theorem dJ6_bitCount_0f7a4_4 : decode cJ6_bitCount_0f7a4 4 = .ok (.ldc_w 265, 3) := by decide +kernel
theorem dJ6_bitCount_0f7a4_7 : decode cJ6_bitCount_0f7a4 7 = .ok (.iand, 1) := by decide +kernel
theorem dJ6_bitCount_0f7a4_8 : decode cJ6_bitCount_0f7a4 8 = .ok (.isub, 1) := by decide +kernel
theorem dJ6_bitCount_0f7a4_9 : decode cJ6_bitCount_0f7a4 9 = .ok (.istore_n 0, 1) := by decide +kernel
theorem dJ6_bitCount_0f7a4_10 : decode cJ6_bitCount_0f7a4 10 = .ok (.iload_n 0, 1) := by decide +kernel
theorem dJ6_bitCount_0f7a4_11 : decode cJ6_bitCount_0f7a4 11 = .ok (.ldc_w 266, 3) := by decide +kernel
theorem dJ6_bitCount_0f7a4_14 : decode cJ6_bitCount_0f7a4 14 = .ok (.iand, 1) := by decide +kernel
theorem dJ6_bitCount_0f7a4_15 : decode cJ6_bitCount_0f7a4 15 = .ok (.iload_n 0, 1) := by decide +kernel
theorem dJ6_bitCount_0f7a4_16 : decode cJ6_bitCount_0f7a4 16 = .ok (.iconst 2, 1) := by decide +kernel
theorem dJ6_bitCount_0f7a4_17 : decode cJ6_bitCount_0f7a4 17 = .ok (.iushr, 1) := by decide +kernel
theorem dJ6_bitCount_0f7a4_18 : decode cJ6_bitCount_0f7a4 18 = .ok (.ldc_w 266, 3) := by decide +kernel
theorem dJ6_bitCount_0f7a4_21 : decode cJ6_bitCount_0f7a4 21 = .ok (.iand, 1) := by decide +kernel
theorem dJ6_bitCount_0f7a4_22 : decode cJ6_bitCount_0f7a4 22 = .ok (.iadd, 1) := by decide +kernel
theorem dJ6_bitCount_0f7a4_23 : decode cJ6_bitCount_0f7a4 23 = .ok (.istore_n 0, 1) := by decide +kernel
theorem dJ6_bitCount_0f7a4_24 : decode cJ6_bitCount_0f7a4 24 = .ok (.iload_n 0, 1) := by decide +kernel
theorem dJ6_bitCount_0f7a4_25 : decode cJ6_bitCount_0f7a4 25 = .ok (.iload_n 0, 1) := by decide +kernel
theorem dJ6_bitCount_0f7a4_26 : decode cJ6_bitCount_0f7a4 26 = .ok (.iconst 4, 1) := by decide +kernel
theorem dJ6_bitCount_0f7a4_27 : decode cJ6_bitCount_0f7a4 27 = .ok (.iushr, 1) := by decide +kernel
theorem dJ6_bitCount_0f7a4_28 : decode cJ6_bitCount_0f7a4 28 = .ok (.iadd, 1) := by decide +kernel
theorem dJ6_bitCount_0f7a4_29 : decode cJ6_bitCount_0f7a4 29 = .ok (.ldc_w 267, 3) := by decide +kernel
theorem dJ6_bitCount_0f7a4_32 : decode cJ6_bitCount_0f7a4 32 = .ok (.iand, 1) := by decide +kernel
theorem dJ6_bitCount_0f7a4_33 : decode cJ6_bitCount_0f7a4 33 = .ok (.istore_n 0, 1) := by decide +kernel
theorem dJ6_bitCount_0f7a4_34 : decode cJ6_bitCount_0f7a4 34 = .ok (.iload_n 0, 1) := by decide +kernel
theorem dJ6_bitCount_0f7a4_35 : decode cJ6_bitCount_0f7a4 35 = .ok (.iload_n 0, 1) := by decide +kernel
theorem dJ6_bitCount_0f7a4_36 : decode cJ6_bitCount_0f7a4 36 = .ok (.bipush 8, 2) := by decide +kernel
theorem dJ6_bitCount_0f7a4_38 : decode cJ6_bitCount_0f7a4 38 = .ok (.iushr, 1) := by decide +kernel
theorem dJ6_bitCount_0f7a4_39 : decode cJ6_bitCount_0f7a4 39 = .ok (.iadd, 1) := by decide +kernel
theorem dJ6_bitCount_0f7a4_40 : decode cJ6_bitCount_0f7a4 40 = .ok (.istore_n 0, 1) := by decide +kernel
theorem dJ6_bitCount_0f7a4_41 : decode cJ6_bitCount_0f7a4 41 = .ok (.iload_n 0, 1) := by decide +kernel
theorem dJ6_bitCount_0f7a4_42 : decode cJ6_bitCount_0f7a4 42 = .ok (.iload_n 0, 1) := by decide +kernel
theorem dJ6_bitCount_0f7a4_43 : decode cJ6_bitCount_0f7a4 43 = .ok (.bipush 16, 2) := by decide +kernel
theorem dJ6_bitCount_0f7a4_45 : decode cJ6_bitCount_0f7a4 45 = .ok (.iushr, 1) := by decide +kernel
theorem dJ6_bitCount_0f7a4_46 : decode cJ6_bitCount_0f7a4 46 = .ok (.iadd, 1) := by decide +kernel
theorem dJ6_bitCount_0f7a4_47 : decode cJ6_bitCount_0f7a4 47 = .ok (.istore_n 0, 1) := by decide +kernel
theorem dJ6_bitCount_0f7a4_48 : decode cJ6_bitCount_0f7a4 48 = .ok (.iload_n 0, 1) := by decide +kernel
theorem dJ6_bitCount_0f7a4_49 : decode cJ6_bitCount_0f7a4 49 = .ok (.bipush 63, 2) := by decide +kernel
theorem dJ6_bitCount_0f7a4_51 : decode cJ6_bitCount_0f7a4 51 = .ok (.iand, 1) := by decide +kernel
theorem dJ6_bitCount_0f7a4_52 : decode cJ6_bitCount_0f7a4 52 = .ok (.ireturn, 1) := by decide +kernel
theorem dJ9_floorDiv_7cf53_0 : decode cJ9_floorDiv_7cf53 0 = .ok (.iload_n 0, 1) := by decide +kernel
theorem dJ9_floorDiv_7cf53_1 : decode cJ9_floorDiv_7cf53 1 = .ok (.iload_n 1, 1) := by decide +kernel
theorem dJ9_floorDiv_7cf53_2 : decode cJ9_floorDiv_7cf53 2 = .ok (.idiv, 1) := by decide +kernel
theorem dJ9_floorDiv_7cf53_3 : decode cJ9_floorDiv_7cf53 3 = .ok (.istore_n 2, 1) := by decide +kernel
theorem dJ9_floorDiv_7cf53_4 : decode cJ9_floorDiv_7cf53 4 = .ok (.iload_n 0, 1) := by decide +kernel
theorem dJ9_floorDiv_7cf53_5 : decode cJ9_floorDiv_7cf53 5 = .ok (.iload_n 1, 1) := by decide +kernel
theorem dJ9_floorDiv_7cf53_6 : decode cJ9_floorDiv_7cf53 6 = .ok (.ixor, 1) := by decide +kernel
theorem dJ9_floorDiv_7cf53_7 : decode cJ9_floorDiv_7cf53 7 = .ok (.ifCond .ge 14, 3) := by decide +kernel
theorem dJ9_floorDiv_7cf53_10 : decode cJ9_floorDiv_7cf53 10 = .ok (.iload_n 2, 1) := by decide +kernel
theorem dJ9_floorDiv_7cf53_11 : decode cJ9_floorDiv_7cf53 11 = .ok (.iload_n 1, 1) := by decide +kernel
theorem dJ9_floorDiv_7cf53_12 : decode cJ9_floorDiv_7cf53 12 = .ok (.imul, 1) := by decide +kernel
theorem dJ9_floorDiv_7cf53_13 : decode cJ9_floorDiv_7cf53 13 = .ok (.iload_n 0, 1) := by decide +kernel
theorem dJ9_floorDiv_7cf53_14 : decode cJ9_floorDiv_7cf53 14 = .ok (.if_icmp .eq 7, 3) := by decide +kernel
theorem dJ9_floorDiv_7cf53_17 : decode cJ9_floorDiv_7cf53 17 = .ok (.iload_n 2, 1) := by decide +kernel
theorem dJ9_floorDiv_7cf53_18 : decode cJ9_floorDiv_7cf53 18 = .ok (.iconst 1, 1) := by decide +kernel
theorem dJ9_floorDiv_7cf53_19 : decode cJ9_floorDiv_7cf53 19 = .ok (.isub, 1) := by decide +kernel
theorem dJ9_floorDiv_7cf53_20 : decode cJ9_floorDiv_7cf53 20 = .ok (.ireturn, 1) := by decide +kernel
theorem dJ9_floorDiv_7cf53_21 : decode cJ9_floorDiv_7cf53 21 = .ok (.iload_n 2, 1) := by decide +kernel
theorem dJ9_floorDiv_7cf53_22 : decode cJ9_floorDiv_7cf53 22 = .ok (.ireturn, 1) := by decide +kernel
theorem dJ9_floorMod_7cf53_0 : decode cJ9_floorMod_7cf53 0 = .ok (.iload_n 0, 1) := by decide +kernel
theorem dJ9_floorMod_7cf53_1 : decode cJ9_floorMod_7cf53 1 = .ok (.iload_n 1, 1) := by decide +kernel
theorem dJ9_floorMod_7cf53_2 : decode cJ9_floorMod_7cf53 2 = .ok (.irem, 1) := by decide +kernel
theorem dJ9_floorMod_7cf53_3 : decode cJ9_floorMod_7cf53 3 = .ok (.istore_n 2, 1) := by decide +kernel
theorem dJ9_floorMod_7cf53_4 : decode cJ9_floorMod_7cf53 4 = .ok (.iload_n 0, 1) := by decide +kernel
theorem dJ9_floorMod_7cf53_5 : decode cJ9_floorMod_7cf53 5 = .ok (.iload_n 1, 1) := by decide +kernel
theorem dJ9_floorMod_7cf53_6 : decode cJ9_floorMod_7cf53 6 = .ok (.ixor, 1) := by decide +kernel
theorem dJ9_floorMod_7cf53_7 : decode cJ9_floorMod_7cf53 7 = .ok (.ifCond .ge 11, 3) := by decide +kernel
theorem dJ9_floorMod_7cf53_10 : decode cJ9_floorMod_7cf53 10 = .ok (.iload_n 2, 1) := by decide +kernel
theorem dJ9_floorMod_7cf53_11 : decode cJ9_floorMod_7cf53 11 = .ok (.ifCond .eq 7, 3) := by decide +kernel
theorem dJ9_floorMod_7cf53_14 : decode cJ9_floorMod_7cf53 14 = .ok (.iload_n 2, 1) := by decide +kernel
theorem dJ9_floorMod_7cf53_15 : decode cJ9_floorMod_7cf53 15 = .ok (.iload_n 1, 1) := by decide +kernel
theorem dJ9_floorMod_7cf53_16 : decode cJ9_floorMod_7cf53 16 = .ok (.iadd, 1) := by decide +kernel
theorem dJ9_floorMod_7cf53_17 : decode cJ9_floorMod_7cf53 17 = .ok (.ireturn, 1) := by decide +kernel
theorem dJ9_floorMod_7cf53_18 : decode cJ9_floorMod_7cf53 18 = .ok (.iload_n 2, 1) := by decide +kernel
theorem dJ9_floorMod_7cf53_19 : decode cJ9_floorMod_7cf53 19 = .ok (.ireturn, 1) := by decide +kernel
theorem dJ9_abs_0f7a4_0 : decode cJ9_abs_0f7a4 0 = .ok (.iload_n 0, 1) := by decide +kernel
theorem dJ9_abs_0f7a4_1 : decode cJ9_abs_0f7a4 1 = .ok (.ifCond .ge 8, 3) := by decide +kernel
theorem dJ9_abs_0f7a4_4 : decode cJ9_abs_0f7a4 4 = .ok (.iload_n 0, 1) := by decide +kernel
theorem dJ9_abs_0f7a4_5 : decode cJ9_abs_0f7a4 5 = .ok (.ineg, 1) := by decide +kernel
theorem dJ9_abs_0f7a4_6 : decode cJ9_abs_0f7a4 6 = .ok (.goto 4, 3) := by decide +kernel
theorem dJ9_abs_0f7a4_9 : decode cJ9_abs_0f7a4 9 = .ok (.iload_n 0, 1) := by decide +kernel
theorem dJ9_abs_0f7a4_10 : decode cJ9_abs_0f7a4 10 = .ok (.ireturn, 1) := by decide +kernel
theorem dJ9_max_7cf53_0 : decode cJ9_max_7cf53 0 = .ok (.iload_n 0, 1) := by decide +kernel
theorem dJ9_max_7cf53_1 : decode cJ9_max_7cf53 1 = .ok (.iload_n 1, 1) := by decide +kernel
theorem dJ9_max_7cf53_2 : decode cJ9_max_7cf53 2 = .ok (.if_icmp .lt 7, 3) := by decide +kernel
theorem dJ9_max_7cf53_5 : decode cJ9_max_7cf53 5 = .ok (.iload_n 0, 1) := by decide +kernel
theorem dJ9_max_7cf53_6 : decode cJ9_max_7cf53 6 = .ok (.goto 4, 3) := by decide +kernel
theorem dJ9_max_7cf53_9 : decode cJ9_max_7cf53 9 = .ok (.iload_n 1, 1) := by decide +kernel
theorem dJ9_max_7cf53_10 : decode cJ9_max_7cf53 10 = .ok (.ireturn, 1) := by decide +kernel
theorem dJ9_max_f86c9_0 : decode cJ9_max_f86c9 0 = .ok (.lload_n 0, 1) := by decide +kernel
theorem dJ9_max_f86c9_1 : decode cJ9_max_f86c9 1 = .ok (.lload_n 2, 1) := by decide +kernel
theorem dJ9_max_f86c9_2 : decode cJ9_max_f86c9 2 = .ok (.lcmp, 1) := by decide +kernel
theorem dJ9_max_f86c9_3 : decode cJ9_max_f86c9 3 = .ok (.ifCond .lt 7, 3) := by decide +kernel
theorem dJ9_max_f86c9_6 : decode cJ9_max_f86c9 6 = .ok (.lload_n 0, 1) := by decide +kernel
theorem dJ9_max_f86c9_7 : decode cJ9_max_f86c9 7 = .ok (.goto 4, 3) := by decide +kernel
theorem dJ9_max_f86c9_10 : decode cJ9_max_f86c9 10 = .ok (.lload_n 2, 1) := by decide +kernel
theorem dJ9_max_f86c9_11 : decode cJ9_max_f86c9 11 = .ok (.lreturn, 1) := by decide +kernel
theorem dJ9_min_7cf53_0 : decode cJ9_min_7cf53 0 = .ok (.iload_n 0, 1) := by decide +kernel
theorem dJ9_min_7cf53_1 : decode cJ9_min_7cf53 1 = .ok (.iload_n 1, 1) := by decide +kernel
theorem dJ9_min_7cf53_2 : decode cJ9_min_7cf53 2 = .ok (.if_icmp .gt 7, 3) := by decide +kernel
theorem dJ9_min_7cf53_5 : decode cJ9_min_7cf53 5 = .ok (.iload_n 0, 1) := by decide +kernel
theorem dJ9_min_7cf53_6 : decode cJ9_min_7cf53 6 = .ok (.goto 4, 3) := by decide +kernel
theorem dJ9_min_7cf53_9 : decode cJ9_min_7cf53 9 = .ok (.iload_n 1, 1) := by decide +kernel
theorem dJ9_min_7cf53_10 : decode cJ9_min_7cf53 10 = .ok (.ireturn, 1) := by decide +kernel
theorem dJ9_min_f86c9_0 : decode cJ9_min_f86c9 0 = .ok (.lload_n 0, 1) := by decide +kernel
theorem dJ9_min_f86c9_1 : decode cJ9_min_f86c9 1 = .ok (.lload_n 2, 1) := by decide +kernel
theorem dJ9_min_f86c9_2 : decode cJ9_min_f86c9 2 = .ok (.lcmp, 1) := by decide +kernel
theorem dJ9_min_f86c9_3 : decode cJ9_min_f86c9 3 = .ok (.ifCond .gt 7, 3) := by decide +kernel
theorem dJ9_min_f86c9_6 : decode cJ9_min_f86c9 6 = .ok (.lload_n 0, 1) := by decide +kernel
theorem dJ9_min_f86c9_7 : decode cJ9_min_f86c9 7 = .ok (.goto 4, 3) := by decide +kernel
theorem dJ9_min_f86c9_10 : decode cJ9_min_f86c9 10 = .ok (.lload_n 2, 1) := by decide +kernel
theorem dJ9_min_f86c9_11 : decode cJ9_min_f86c9 11 = .ok (.lreturn, 1) := by decide +kernel
theorem dJ0_length_8abf5_0 : decode cJ0_length_8abf5 0 = .ok (.aload_n 0, 1) := by decide +kernel
theorem dJ0_length_8abf5_1 : decode cJ0_length_8abf5 1 = .ok (.getfield 9, 3) := by decide +kernel
theorem dJ0_length_8abf5_4 : decode cJ0_length_8abf5 4 = .ok (.arraylength, 1) := by decide +kernel
theorem dJ0_length_8abf5_5 : decode cJ0_length_8abf5 5 = .ok (.aload_n 0, 1) := by decide +kernel
theorem dJ0_length_8abf5_6 : decode cJ0_length_8abf5 6 = .ok (.invokevirtual 335, 3) := by decide +kernel
theorem dJ0_length_8abf5_9 : decode cJ0_length_8abf5 9 = .ok (.ishr, 1) := by decide +kernel
theorem dJ0_length_8abf5_10 : decode cJ0_length_8abf5 10 = .ok (.ireturn, 1) := by decide +kernel
theorem dJ0_charAt_5068e_0 : decode cJ0_charAt_5068e 0 = .ok (.aload_n 0, 1) := by decide +kernel
theorem dJ0_charAt_5068e_1 : decode cJ0_charAt_5068e 1 = .ok (.invokevirtual 492, 3) := by decide +kernel
theorem dJ0_charAt_5068e_4 : decode cJ0_charAt_5068e 4 = .ok (.ifCond .eq 12, 3) := by decide +kernel
theorem dJ0_charAt_5068e_7 : decode cJ0_charAt_5068e 7 = .ok (.aload_n 0, 1) := by decide +kernel
theorem dJ0_charAt_5068e_8 : decode cJ0_charAt_5068e 8 = .ok (.getfield 9, 3) := by decide +kernel
theorem dJ0_charAt_5068e_11 : decode cJ0_charAt_5068e 11 = .ok (.iload_n 1, 1) := by decide +kernel
theorem dJ0_charAt_5068e_12 : decode cJ0_charAt_5068e 12 = .ok (.invokestatic 495, 3) := by decide +kernel
theorem dJ0_charAt_5068e_15 : decode cJ0_charAt_5068e 15 = .ok (.ireturn, 1) := by decide +kernel
theorem dJ0_charAt_5068e_16 : decode cJ0_charAt_5068e 16 = .ok (.aload_n 0, 1) := by decide +kernel
theorem dJ0_charAt_5068e_17 : decode cJ0_charAt_5068e 17 = .ok (.getfield 9, 3) := by decide +kernel
theorem dJ0_charAt_5068e_20 : decode cJ0_charAt_5068e 20 = .ok (.iload_n 1, 1) := by decide +kernel
theorem dJ0_charAt_5068e_21 : decode cJ0_charAt_5068e 21 = .ok (.invokestatic 498, 3) := by decide +kernel
theorem dJ0_charAt_5068e_24 : decode cJ0_charAt_5068e 24 = .ok (.ireturn, 1) := by decide +kernel
theorem dJ0_coder_7d493_0 : decode cJ0_coder_7d493 0 = .ok (.getstatic 38, 3) := by decide +kernel
theorem dJ0_coder_7d493_3 : decode cJ0_coder_7d493 3 = .ok (.ifCond .eq 10, 3) := by decide +kernel
theorem dJ0_coder_7d493_6 : decode cJ0_coder_7d493 6 = .ok (.aload_n 0, 1) := by decide +kernel
theorem dJ0_coder_7d493_7 : decode cJ0_coder_7d493 7 = .ok (.getfield 15, 3) := by decide +kernel
theorem dJ0_coder_7d493_10 : decode cJ0_coder_7d493 10 = .ok (.goto 4, 3) := by decide +kernel
theorem dJ0_coder_7d493_13 : decode cJ0_coder_7d493 13 = .ok (.iconst 1, 1) := by decide +kernel
theorem dJ0_coder_7d493_14 : decode cJ0_coder_7d493 14 = .ok (.ireturn, 1) := by decide +kernel
theorem dJ0_isLatin1_aae02_0 : decode cJ0_isLatin1_aae02 0 = .ok (.getstatic 38, 3) := by decide +kernel
theorem dJ0_isLatin1_aae02_3 : decode cJ0_isLatin1_aae02 3 = .ok (.ifCond .eq 14, 3) := by decide +kernel
theorem dJ0_isLatin1_aae02_6 : decode cJ0_isLatin1_aae02 6 = .ok (.aload_n 0, 1) := by decide +kernel
theorem dJ0_isLatin1_aae02_7 : decode cJ0_isLatin1_aae02 7 = .ok (.getfield 15, 3) := by decide +kernel
theorem dJ0_isLatin1_aae02_10 : decode cJ0_isLatin1_aae02 10 = .ok (.ifCond .ne 7, 3) := by decide +kernel
theorem dJ0_isLatin1_aae02_13 : decode cJ0_isLatin1_aae02 13 = .ok (.iconst 1, 1) := by decide +kernel
theorem dJ0_isLatin1_aae02_14 : decode cJ0_isLatin1_aae02 14 = .ok (.goto 4, 3) := by decide +kernel
theorem dJ0_isLatin1_aae02_17 : decode cJ0_isLatin1_aae02 17 = .ok (.iconst 0, 1) := by decide +kernel
theorem dJ0_isLatin1_aae02_18 : decode cJ0_isLatin1_aae02 18 = .ok (.ireturn, 1) := by decide +kernel
theorem dJ0_checkIndex_df160_0 : decode cJ0_checkIndex_df160 0 = .ok (.iload_n 0, 1) := by decide +kernel
theorem dJ0_checkIndex_df160_1 : decode cJ0_checkIndex_df160 1 = .ok (.iload_n 1, 1) := by decide +kernel
theorem dJ0_checkIndex_df160_2 : decode cJ0_checkIndex_df160 2 = .ok (.getstatic 1053, 3) := by decide +kernel
theorem dJ0_checkIndex_df160_5 : decode cJ0_checkIndex_df160 5 = .ok (.invokestatic 1059, 3) := by decide +kernel
theorem dJ0_checkIndex_df160_8 : decode cJ0_checkIndex_df160 8 = .ok (.pop, 1) := by decide +kernel
theorem dJ0_checkIndex_df160_9 : decode cJ0_checkIndex_df160 9 = .ok (.return_, 1) := by decide +kernel
theorem dJ1_charAt_3b067_0 : decode cJ1_charAt_3b067 0 = .ok (.iload_n 1, 1) := by decide +kernel
theorem dJ1_charAt_3b067_1 : decode cJ1_charAt_3b067 1 = .ok (.aload_n 0, 1) := by decide +kernel
theorem dJ1_charAt_3b067_2 : decode cJ1_charAt_3b067 2 = .ok (.arraylength, 1) := by decide +kernel
theorem dJ1_charAt_3b067_3 : decode cJ1_charAt_3b067 3 = .ok (.invokestatic 9, 3) := by decide +kernel
theorem dJ1_charAt_3b067_6 : decode cJ1_charAt_3b067 6 = .ok (.aload_n 0, 1) := by decide +kernel
theorem dJ1_charAt_3b067_7 : decode cJ1_charAt_3b067 7 = .ok (.iload_n 1, 1) := by decide +kernel
theorem dJ1_charAt_3b067_8 : decode cJ1_charAt_3b067 8 = .ok (.baload, 1) := by decide +kernel
theorem dJ1_charAt_3b067_9 : decode cJ1_charAt_3b067 9 = .ok (.sipush 255, 3) := by decide +kernel
theorem dJ1_charAt_3b067_12 : decode cJ1_charAt_3b067 12 = .ok (.iand, 1) := by decide +kernel
theorem dJ1_charAt_3b067_13 : decode cJ1_charAt_3b067 13 = .ok (.i2c, 1) := by decide +kernel
theorem dJ1_charAt_3b067_14 : decode cJ1_charAt_3b067 14 = .ok (.ireturn, 1) := by decide +kernel
theorem dJ2_getChar_3b067_0 : decode cJ2_getChar_3b067 0 = .ok (.getstatic 44, 3) := by decide +kernel
theorem dJ2_getChar_3b067_3 : decode cJ2_getChar_3b067 3 = .ok (.ifCond .ne 25, 3) := by decide +kernel
theorem dJ2_getChar_3b067_6 : decode cJ2_getChar_3b067 6 = .ok (.iload_n 1, 1) := by decide +kernel
theorem dJ2_getChar_3b067_7 : decode cJ2_getChar_3b067 7 = .ok (.ifCond .lt 11, 3) := by decide +kernel
theorem dJ2_getChar_3b067_10 : decode cJ2_getChar_3b067 10 = .ok (.iload_n 1, 1) := by decide +kernel
theorem dJ2_getChar_3b067_11 : decode cJ2_getChar_3b067 11 = .ok (.aload_n 0, 1) := by decide +kernel
theorem dJ2_getChar_3b067_12 : decode cJ2_getChar_3b067 12 = .ok (.invokestatic 48, 3) := by decide +kernel
theorem dJ2_getChar_3b067_15 : decode cJ2_getChar_3b067 15 = .ok (.if_icmp .lt 13, 3) := by decide +kernel
theorem dJ2_getChar_3b067_18 : decode cJ2_getChar_3b067 18 = .ok (.new 52, 3) := by decide +kernel
theorem dJ2_getChar_3b067_21 : decode cJ2_getChar_3b067 21 = .ok (.dup, 1) := by decide +kernel
theorem dJ2_getChar_3b067_22 : decode cJ2_getChar_3b067 22 = .ok (.ldc 54, 2) := by decide +kernel
theorem dJ2_getChar_3b067_24 : decode cJ2_getChar_3b067 24 = .ok (.invokespecial 56, 3) := by decide +kernel
theorem dJ2_getChar_3b067_27 : decode cJ2_getChar_3b067 27 = .ok (.athrow, 1) := by decide +kernel
theorem dJ2_getChar_3b067_28 : decode cJ2_getChar_3b067 28 = .ok (.iload_n 1, 1) := by decide +kernel
theorem dJ2_getChar_3b067_29 : decode cJ2_getChar_3b067 29 = .ok (.iconst 1, 1) := by decide +kernel
theorem dJ2_getChar_3b067_30 : decode cJ2_getChar_3b067 30 = .ok (.ishl, 1) := by decide +kernel
theorem dJ2_getChar_3b067_31 : decode cJ2_getChar_3b067 31 = .ok (.istore_n 1, 1) := by decide +kernel
theorem dJ2_getChar_3b067_32 : decode cJ2_getChar_3b067 32 = .ok (.aload_n 0, 1) := by decide +kernel
theorem dJ2_getChar_3b067_33 : decode cJ2_getChar_3b067 33 = .ok (.iload_n 1, 1) := by decide +kernel
theorem dJ2_getChar_3b067_34 : decode cJ2_getChar_3b067 34 = .ok (.iinc 1 1, 3) := by decide +kernel
theorem dJ2_getChar_3b067_37 : decode cJ2_getChar_3b067 37 = .ok (.baload, 1) := by decide +kernel
theorem dJ2_getChar_3b067_38 : decode cJ2_getChar_3b067 38 = .ok (.sipush 255, 3) := by decide +kernel
theorem dJ2_getChar_3b067_41 : decode cJ2_getChar_3b067 41 = .ok (.iand, 1) := by decide +kernel
theorem dJ2_getChar_3b067_42 : decode cJ2_getChar_3b067 42 = .ok (.getstatic 59, 3) := by decide +kernel
theorem dJ2_getChar_3b067_45 : decode cJ2_getChar_3b067 45 = .ok (.ishl, 1) := by decide +kernel
theorem dJ2_getChar_3b067_46 : decode cJ2_getChar_3b067 46 = .ok (.aload_n 0, 1) := by decide +kernel
theorem dJ2_getChar_3b067_47 : decode cJ2_getChar_3b067 47 = .ok (.iload_n 1, 1) := by decide +kernel
theorem dJ2_getChar_3b067_48 : decode cJ2_getChar_3b067 48 = .ok (.baload, 1) := by decide +kernel
theorem dJ2_getChar_3b067_49 : decode cJ2_getChar_3b067 49 = .ok (.sipush 255, 3) := by decide +kernel
theorem dJ2_getChar_3b067_52 : decode cJ2_getChar_3b067 52 = .ok (.iand, 1) := by decide +kernel
theorem dJ2_getChar_3b067_53 : decode cJ2_getChar_3b067 53 = .ok (.getstatic 63, 3) := by decide +kernel
theorem dJ2_getChar_3b067_56 : decode cJ2_getChar_3b067 56 = .ok (.ishl, 1) := by decide +kernel
theorem dJ2_getChar_3b067_57 : decode cJ2_getChar_3b067 57 = .ok (.ior, 1) := by decide +kernel
theorem dJ2_getChar_3b067_58 : decode cJ2_getChar_3b067 58 = .ok (.i2c, 1) := by decide +kernel
theorem dJ2_getChar_3b067_59 : decode cJ2_getChar_3b067 59 = .ok (.ireturn, 1) := by decide +kernel
theorem dJ2_length_9d52b_0 : decode cJ2_length_9d52b 0 = .ok (.aload_n 0, 1) := by decide +kernel
theorem dJ2_length_9d52b_1 : decode cJ2_length_9d52b 1 = .ok (.arraylength, 1) := by decide +kernel
theorem dJ2_length_9d52b_2 : decode cJ2_length_9d52b 2 = .ok (.iconst 1, 1) := by decide +kernel
theorem dJ2_length_9d52b_3 : decode cJ2_length_9d52b 3 = .ok (.ishr, 1) := by decide +kernel
theorem dJ2_length_9d52b_4 : decode cJ2_length_9d52b 4 = .ok (.ireturn, 1) := by decide +kernel
theorem dJ2_charAt_3b067_0 : decode cJ2_charAt_3b067 0 = .ok (.iload_n 1, 1) := by decide +kernel
theorem dJ2_charAt_3b067_1 : decode cJ2_charAt_3b067 1 = .ok (.aload_n 0, 1) := by decide +kernel
theorem dJ2_charAt_3b067_2 : decode cJ2_charAt_3b067 2 = .ok (.invokestatic 67, 3) := by decide +kernel
theorem dJ2_charAt_3b067_5 : decode cJ2_charAt_3b067 5 = .ok (.aload_n 0, 1) := by decide +kernel
theorem dJ2_charAt_3b067_6 : decode cJ2_charAt_3b067 6 = .ok (.iload_n 1, 1) := by decide +kernel
theorem dJ2_charAt_3b067_7 : decode cJ2_charAt_3b067 7 = .ok (.invokestatic 71, 3) := by decide +kernel
theorem dJ2_charAt_3b067_10 : decode cJ2_charAt_3b067 10 = .ok (.ireturn, 1) := by decide +kernel
theorem dJ2_checkIndex_2214a_0 : decode cJ2_checkIndex_2214a 0 = .ok (.iload_n 0, 1) := by decide +kernel
theorem dJ2_checkIndex_2214a_1 : decode cJ2_checkIndex_2214a 1 = .ok (.aload_n 1, 1) := by decide +kernel
theorem dJ2_checkIndex_2214a_2 : decode cJ2_checkIndex_2214a 2 = .ok (.invokestatic 48, 3) := by decide +kernel
theorem dJ2_checkIndex_2214a_5 : decode cJ2_checkIndex_2214a 5 = .ok (.invokestatic 414, 3) := by decide +kernel
theorem dJ2_checkIndex_2214a_8 : decode cJ2_checkIndex_2214a 8 = .ok (.return_, 1) := by decide +kernel
theorem dJ7_fill_53178_0 : decode cJ7_fill_53178 0 = .ok (.iconst 0, 1) := by decide +kernel
theorem dJ7_fill_53178_1 : decode cJ7_fill_53178 1 = .ok (.istore_n 2, 1) := by decide +kernel
theorem dJ7_fill_53178_2 : decode cJ7_fill_53178 2 = .ok (.aload_n 0, 1) := by decide +kernel
theorem dJ7_fill_53178_3 : decode cJ7_fill_53178 3 = .ok (.arraylength, 1) := by decide +kernel
theorem dJ7_fill_53178_4 : decode cJ7_fill_53178 4 = .ok (.istore_n 3, 1) := by decide +kernel
theorem dJ7_fill_53178_5 : decode cJ7_fill_53178 5 = .ok (.iload_n 2, 1) := by decide +kernel
theorem dJ7_fill_53178_6 : decode cJ7_fill_53178 6 = .ok (.iload_n 3, 1) := by decide +kernel
theorem dJ7_fill_53178_7 : decode cJ7_fill_53178 7 = .ok (.if_icmp .ge 13, 3) := by decide +kernel
theorem dJ7_fill_53178_10 : decode cJ7_fill_53178 10 = .ok (.aload_n 0, 1) := by decide +kernel
theorem dJ7_fill_53178_11 : decode cJ7_fill_53178 11 = .ok (.iload_n 2, 1) := by decide +kernel
theorem dJ7_fill_53178_12 : decode cJ7_fill_53178 12 = .ok (.iload_n 1, 1) := by decide +kernel
theorem dJ7_fill_53178_13 : decode cJ7_fill_53178 13 = .ok (.iastore, 1) := by decide +kernel
theorem dJ7_fill_53178_14 : decode cJ7_fill_53178 14 = .ok (.iinc 2 1, 3) := by decide +kernel
theorem dJ7_fill_53178_17 : decode cJ7_fill_53178 17 = .ok (.goto (-12), 3) := by decide +kernel
theorem dJ7_fill_53178_20 : decode cJ7_fill_53178 20 = .ok (.return_, 1) := by decide +kernel
theorem dJ7_fill_031fb_0 : decode cJ7_fill_031fb 0 = .ok (.iconst 0, 1) := by decide +kernel
theorem dJ7_fill_031fb_1 : decode cJ7_fill_031fb 1 = .ok (.istore_n 2, 1) := by decide +kernel
theorem dJ7_fill_031fb_2 : decode cJ7_fill_031fb 2 = .ok (.aload_n 0, 1) := by decide +kernel
theorem dJ7_fill_031fb_3 : decode cJ7_fill_031fb 3 = .ok (.arraylength, 1) := by decide +kernel
theorem dJ7_fill_031fb_4 : decode cJ7_fill_031fb 4 = .ok (.istore_n 3, 1) := by decide +kernel
theorem dJ7_fill_031fb_5 : decode cJ7_fill_031fb 5 = .ok (.iload_n 2, 1) := by decide +kernel
theorem dJ7_fill_031fb_6 : decode cJ7_fill_031fb 6 = .ok (.iload_n 3, 1) := by decide +kernel
theorem dJ7_fill_031fb_7 : decode cJ7_fill_031fb 7 = .ok (.if_icmp .ge 13, 3) := by decide +kernel
theorem dJ7_fill_031fb_10 : decode cJ7_fill_031fb 10 = .ok (.aload_n 0, 1) := by decide +kernel
theorem dJ7_fill_031fb_11 : decode cJ7_fill_031fb 11 = .ok (.iload_n 2, 1) := by decide +kernel
theorem dJ7_fill_031fb_12 : decode cJ7_fill_031fb 12 = .ok (.iload_n 1, 1) := by decide +kernel
theorem dJ7_fill_031fb_13 : decode cJ7_fill_031fb 13 = .ok (.bastore, 1) := by decide +kernel
theorem dJ7_fill_031fb_14 : decode cJ7_fill_031fb 14 = .ok (.iinc 2 1, 3) := by decide +kernel
theorem dJ7_fill_031fb_17 : decode cJ7_fill_031fb 17 = .ok (.goto (-12), 3) := by decide +kernel
theorem dJ7_fill_031fb_20 : decode cJ7_fill_031fb 20 = .ok (.return_, 1) := by decide +kernel
theorem dJ3_checkIndex_8e157_0 : decode cJ3_checkIndex_8e157 0 = .ok (.iload_n 0, 1) := by decide +kernel
theorem dJ3_checkIndex_8e157_1 : decode cJ3_checkIndex_8e157 1 = .ok (.ifCond .lt 8, 3) := by decide +kernel
theorem dJ3_checkIndex_8e157_4 : decode cJ3_checkIndex_8e157 4 = .ok (.iload_n 0, 1) := by decide +kernel
theorem dJ3_checkIndex_8e157_5 : decode cJ3_checkIndex_8e157 5 = .ok (.iload_n 1, 1) := by decide +kernel
theorem dJ3_checkIndex_8e157_6 : decode cJ3_checkIndex_8e157 6 = .ok (.if_icmp .lt 10, 3) := by decide +kernel
theorem dJ3_checkIndex_8e157_9 : decode cJ3_checkIndex_8e157 9 = .ok (.aload_n 2, 1) := by decide +kernel
theorem dJ3_checkIndex_8e157_10 : decode cJ3_checkIndex_8e157 10 = .ok (.iload_n 0, 1) := by decide +kernel
theorem dJ3_checkIndex_8e157_11 : decode cJ3_checkIndex_8e157 11 = .ok (.iload_n 1, 1) := by decide +kernel
theorem dJ3_checkIndex_8e157_12 : decode cJ3_checkIndex_8e157 12 = .ok (.invokestatic 95, 3) := by decide +kernel
theorem dJ3_checkIndex_8e157_15 : decode cJ3_checkIndex_8e157 15 = .ok (.athrow, 1) := by decide +kernel
theorem dJ3_checkIndex_8e157_16 : decode cJ3_checkIndex_8e157 16 = .ok (.iload_n 0, 1) := by decide +kernel
theorem dJ3_checkIndex_8e157_17 : decode cJ3_checkIndex_8e157 17 = .ok (.ireturn, 1) := by decide +kernel
theorem dL_law_0 : decode cL_law 0 = .ok (.new 7, 3) := by decide +kernel
theorem dL_law_3 : decode cL_law 3 = .ok (.dup, 1) := by decide +kernel
theorem dL_law_4 : decode cL_law 4 = .ok (.invokespecial 9, 3) := by decide +kernel
theorem dL_law_7 : decode cL_law 7 = .ok (.astore_n 1, 1) := by decide +kernel
theorem dL_law_8 : decode cL_law 8 = .ok (.new 10, 3) := by decide +kernel
theorem dL_law_11 : decode cL_law 11 = .ok (.dup, 1) := by decide +kernel
theorem dL_law_12 : decode cL_law 12 = .ok (.invokespecial 12, 3) := by decide +kernel
theorem dL_law_15 : decode cL_law 15 = .ok (.astore_n 2, 1) := by decide +kernel
theorem dL_law_16 : decode cL_law 16 = .ok (.iconst 0, 1) := by decide +kernel
theorem dL_law_17 : decode cL_law 17 = .ok (.istore_n 3, 1) := by decide +kernel
theorem dL_law_18 : decode cL_law 18 = .ok (.iload_n 3, 1) := by decide +kernel
theorem dL_law_19 : decode cL_law 19 = .ok (.aload_n 0, 1) := by decide +kernel
theorem dL_law_20 : decode cL_law 20 = .ok (.arraylength, 1) := by decide +kernel
theorem dL_law_21 : decode cL_law 21 = .ok (.bipush 6, 2) := by decide +kernel
theorem dL_law_23 : decode cL_law 23 = .ok (.isub, 1) := by decide +kernel
theorem dL_law_24 : decode cL_law 24 = .ok (.if_icmp .gt 1108, 3) := by decide +kernel
theorem dL_law_27 : decode cL_law 27 = .ok (.aload_n 0, 1) := by decide +kernel
theorem dL_law_28 : decode cL_law 28 = .ok (.iload_n 3, 1) := by decide +kernel
theorem dL_law_29 : decode cL_law 29 = .ok (.iaload, 1) := by decide +kernel
theorem dL_law_30 : decode cL_law 30 = .ok (.bipush 63, 2) := by decide +kernel
theorem dL_law_32 : decode cL_law 32 = .ok (.iand, 1) := by decide +kernel
theorem dL_law_33 : decode cL_law 33 = .ok (.tableswitch 1093 0 33 #[151, 214, 237, 250, 273, 296, 339, 372, 405, 438, 481, 524, 577, 600, 633, 656, 679, 702, 735, 758, 771, 784, 807, 830, 853, 896, 919, 952, 965, 988, 1021, 1034, 1057, 1070], 151) := by decide +kernel
theorem dL_law_184 : decode cL_law 184 = .ok (.aload_n 1, 1) := by decide +kernel
theorem dL_law_185 : decode cL_law 185 = .ok (.aload_n 0, 1) := by decide +kernel
theorem dL_law_186 : decode cL_law 186 = .ok (.iload_n 3, 1) := by decide +kernel
theorem dL_law_187 : decode cL_law 187 = .ok (.iconst 1, 1) := by decide +kernel
theorem dL_law_188 : decode cL_law 188 = .ok (.iadd, 1) := by decide +kernel
theorem dL_law_189 : decode cL_law 189 = .ok (.iaload, 1) := by decide +kernel
theorem dL_law_190 : decode cL_law 190 = .ok (.aload_n 0, 1) := by decide +kernel
theorem dL_law_191 : decode cL_law 191 = .ok (.iload_n 3, 1) := by decide +kernel
theorem dL_law_192 : decode cL_law 192 = .ok (.iconst 2, 1) := by decide +kernel
theorem dL_law_193 : decode cL_law 193 = .ok (.iadd, 1) := by decide +kernel
theorem dL_law_194 : decode cL_law 194 = .ok (.iaload, 1) := by decide +kernel
theorem dL_law_195 : decode cL_law 195 = .ok (.aload_n 0, 1) := by decide +kernel
theorem dL_law_196 : decode cL_law 196 = .ok (.iload_n 3, 1) := by decide +kernel
theorem dL_law_197 : decode cL_law 197 = .ok (.iconst 3, 1) := by decide +kernel
theorem dL_law_198 : decode cL_law 198 = .ok (.iadd, 1) := by decide +kernel
theorem dL_law_199 : decode cL_law 199 = .ok (.iaload, 1) := by decide +kernel
theorem dL_law_200 : decode cL_law 200 = .ok (.aload_n 0, 1) := by decide +kernel
theorem dL_law_201 : decode cL_law 201 = .ok (.iload_n 3, 1) := by decide +kernel
theorem dL_law_202 : decode cL_law 202 = .ok (.iconst 4, 1) := by decide +kernel
theorem dL_law_203 : decode cL_law 203 = .ok (.iadd, 1) := by decide +kernel
theorem dL_law_204 : decode cL_law 204 = .ok (.iaload, 1) := by decide +kernel
theorem dL_law_205 : decode cL_law 205 = .ok (.aload_n 0, 1) := by decide +kernel
theorem dL_law_206 : decode cL_law 206 = .ok (.iload_n 3, 1) := by decide +kernel
theorem dL_law_207 : decode cL_law 207 = .ok (.iconst 5, 1) := by decide +kernel
theorem dL_law_208 : decode cL_law 208 = .ok (.iadd, 1) := by decide +kernel
theorem dL_law_209 : decode cL_law 209 = .ok (.iaload, 1) := by decide +kernel
theorem dL_law_210 : decode cL_law 210 = .ok (.invokevirtual 13, 3) := by decide +kernel
theorem dL_law_213 : decode cL_law 213 = .ok (.aload_n 2, 1) := by decide +kernel
theorem dL_law_214 : decode cL_law 214 = .ok (.aload_n 0, 1) := by decide +kernel
theorem dL_law_215 : decode cL_law 215 = .ok (.iload_n 3, 1) := by decide +kernel
theorem dL_law_216 : decode cL_law 216 = .ok (.iconst 1, 1) := by decide +kernel
theorem dL_law_217 : decode cL_law 217 = .ok (.iadd, 1) := by decide +kernel
theorem dL_law_218 : decode cL_law 218 = .ok (.iaload, 1) := by decide +kernel
theorem dL_law_219 : decode cL_law 219 = .ok (.aload_n 0, 1) := by decide +kernel
theorem dL_law_220 : decode cL_law 220 = .ok (.iload_n 3, 1) := by decide +kernel
theorem dL_law_221 : decode cL_law 221 = .ok (.iconst 2, 1) := by decide +kernel
theorem dL_law_222 : decode cL_law 222 = .ok (.iadd, 1) := by decide +kernel
theorem dL_law_223 : decode cL_law 223 = .ok (.iaload, 1) := by decide +kernel
theorem dL_law_224 : decode cL_law 224 = .ok (.aload_n 0, 1) := by decide +kernel
theorem dL_law_225 : decode cL_law 225 = .ok (.iload_n 3, 1) := by decide +kernel
theorem dL_law_226 : decode cL_law 226 = .ok (.iconst 3, 1) := by decide +kernel
theorem dL_law_227 : decode cL_law 227 = .ok (.iadd, 1) := by decide +kernel
theorem dL_law_228 : decode cL_law 228 = .ok (.iaload, 1) := by decide +kernel
theorem dL_law_229 : decode cL_law 229 = .ok (.aload_n 0, 1) := by decide +kernel
theorem dL_law_230 : decode cL_law 230 = .ok (.iload_n 3, 1) := by decide +kernel
theorem dL_law_231 : decode cL_law 231 = .ok (.iconst 4, 1) := by decide +kernel
theorem dL_law_232 : decode cL_law 232 = .ok (.iadd, 1) := by decide +kernel
theorem dL_law_233 : decode cL_law 233 = .ok (.iaload, 1) := by decide +kernel
theorem dL_law_234 : decode cL_law 234 = .ok (.aload_n 0, 1) := by decide +kernel
theorem dL_law_235 : decode cL_law 235 = .ok (.iload_n 3, 1) := by decide +kernel
theorem dL_law_236 : decode cL_law 236 = .ok (.iconst 5, 1) := by decide +kernel
theorem dL_law_237 : decode cL_law 237 = .ok (.iadd, 1) := by decide +kernel
theorem dL_law_238 : decode cL_law 238 = .ok (.iaload, 1) := by decide +kernel
theorem dL_law_239 : decode cL_law 239 = .ok (.invokevirtual 17, 3) := by decide +kernel
theorem dL_law_242 : decode cL_law 242 = .ok (.if_icmp .eq 884, 3) := by decide +kernel
theorem dL_law_245 : decode cL_law 245 = .ok (.iconst 0, 1) := by decide +kernel
theorem dL_law_246 : decode cL_law 246 = .ok (.ireturn, 1) := by decide +kernel
theorem dL_law_247 : decode cL_law 247 = .ok (.aload_n 1, 1) := by decide +kernel
theorem dL_law_248 : decode cL_law 248 = .ok (.aload_n 0, 1) := by decide +kernel
theorem dL_law_249 : decode cL_law 249 = .ok (.iload_n 3, 1) := by decide +kernel
theorem dL_law_250 : decode cL_law 250 = .ok (.iconst 1, 1) := by decide +kernel
theorem dL_law_251 : decode cL_law 251 = .ok (.iadd, 1) := by decide +kernel
theorem dL_law_252 : decode cL_law 252 = .ok (.iaload, 1) := by decide +kernel
theorem dL_law_253 : decode cL_law 253 = .ok (.invokevirtual 18, 3) := by decide +kernel
theorem dL_law_256 : decode cL_law 256 = .ok (.aload_n 2, 1) := by decide +kernel
theorem dL_law_257 : decode cL_law 257 = .ok (.aload_n 0, 1) := by decide +kernel
theorem dL_law_258 : decode cL_law 258 = .ok (.iload_n 3, 1) := by decide +kernel
theorem dL_law_259 : decode cL_law 259 = .ok (.iconst 1, 1) := by decide +kernel
theorem dL_law_260 : decode cL_law 260 = .ok (.iadd, 1) := by decide +kernel
theorem dL_law_261 : decode cL_law 261 = .ok (.iaload, 1) := by decide +kernel
theorem dL_law_262 : decode cL_law 262 = .ok (.invokevirtual 22, 3) := by decide +kernel
theorem dL_law_265 : decode cL_law 265 = .ok (.if_icmp .eq 861, 3) := by decide +kernel
theorem dL_law_268 : decode cL_law 268 = .ok (.iconst 0, 1) := by decide +kernel
theorem dL_law_269 : decode cL_law 269 = .ok (.ireturn, 1) := by decide +kernel
theorem dL_law_270 : decode cL_law 270 = .ok (.aload_n 1, 1) := by decide +kernel
theorem dL_law_271 : decode cL_law 271 = .ok (.invokevirtual 23, 3) := by decide +kernel
theorem dL_law_274 : decode cL_law 274 = .ok (.aload_n 2, 1) := by decide +kernel
theorem dL_law_275 : decode cL_law 275 = .ok (.invokevirtual 27, 3) := by decide +kernel
theorem dL_law_278 : decode cL_law 278 = .ok (.if_icmp .eq 848, 3) := by decide +kernel
theorem dL_law_281 : decode cL_law 281 = .ok (.iconst 0, 1) := by decide +kernel
theorem dL_law_282 : decode cL_law 282 = .ok (.ireturn, 1) := by decide +kernel
theorem dL_law_283 : decode cL_law 283 = .ok (.aload_n 1, 1) := by decide +kernel
theorem dL_law_284 : decode cL_law 284 = .ok (.aload_n 0, 1) := by decide +kernel
theorem dL_law_285 : decode cL_law 285 = .ok (.iload_n 3, 1) := by decide +kernel
theorem dL_law_286 : decode cL_law 286 = .ok (.iconst 1, 1) := by decide +kernel
theorem dL_law_287 : decode cL_law 287 = .ok (.iadd, 1) := by decide +kernel
theorem dL_law_288 : decode cL_law 288 = .ok (.iaload, 1) := by decide +kernel
theorem dL_law_289 : decode cL_law 289 = .ok (.invokevirtual 28, 3) := by decide +kernel
theorem dL_law_292 : decode cL_law 292 = .ok (.aload_n 2, 1) := by decide +kernel
theorem dL_law_293 : decode cL_law 293 = .ok (.aload_n 0, 1) := by decide +kernel
theorem dL_law_294 : decode cL_law 294 = .ok (.iload_n 3, 1) := by decide +kernel
theorem dL_law_295 : decode cL_law 295 = .ok (.iconst 1, 1) := by decide +kernel
theorem dL_law_296 : decode cL_law 296 = .ok (.iadd, 1) := by decide +kernel
theorem dL_law_297 : decode cL_law 297 = .ok (.iaload, 1) := by decide +kernel
theorem dL_law_298 : decode cL_law 298 = .ok (.invokevirtual 32, 3) := by decide +kernel
theorem dL_law_301 : decode cL_law 301 = .ok (.if_icmp .eq 825, 3) := by decide +kernel
theorem dL_law_304 : decode cL_law 304 = .ok (.iconst 0, 1) := by decide +kernel
theorem dL_law_305 : decode cL_law 305 = .ok (.ireturn, 1) := by decide +kernel
theorem dL_law_306 : decode cL_law 306 = .ok (.aload_n 1, 1) := by decide +kernel
theorem dL_law_307 : decode cL_law 307 = .ok (.aload_n 0, 1) := by decide +kernel
theorem dL_law_308 : decode cL_law 308 = .ok (.iload_n 3, 1) := by decide +kernel
theorem dL_law_309 : decode cL_law 309 = .ok (.iconst 1, 1) := by decide +kernel
theorem dL_law_310 : decode cL_law 310 = .ok (.iadd, 1) := by decide +kernel
theorem dL_law_311 : decode cL_law 311 = .ok (.iaload, 1) := by decide +kernel
theorem dL_law_312 : decode cL_law 312 = .ok (.invokevirtual 33, 3) := by decide +kernel
theorem dL_law_315 : decode cL_law 315 = .ok (.aload_n 2, 1) := by decide +kernel
theorem dL_law_316 : decode cL_law 316 = .ok (.aload_n 0, 1) := by decide +kernel
theorem dL_law_317 : decode cL_law 317 = .ok (.iload_n 3, 1) := by decide +kernel
theorem dL_law_318 : decode cL_law 318 = .ok (.iconst 1, 1) := by decide +kernel
theorem dL_law_319 : decode cL_law 319 = .ok (.iadd, 1) := by decide +kernel
theorem dL_law_320 : decode cL_law 320 = .ok (.iaload, 1) := by decide +kernel
theorem dL_law_321 : decode cL_law 321 = .ok (.invokevirtual 36, 3) := by decide +kernel
theorem dL_law_324 : decode cL_law 324 = .ok (.if_icmp .eq 802, 3) := by decide +kernel
theorem dL_law_327 : decode cL_law 327 = .ok (.iconst 0, 1) := by decide +kernel
theorem dL_law_328 : decode cL_law 328 = .ok (.ireturn, 1) := by decide +kernel
theorem dL_law_329 : decode cL_law 329 = .ok (.aload_n 1, 1) := by decide +kernel
theorem dL_law_330 : decode cL_law 330 = .ok (.aload_n 0, 1) := by decide +kernel
theorem dL_law_331 : decode cL_law 331 = .ok (.iload_n 3, 1) := by decide +kernel
theorem dL_law_332 : decode cL_law 332 = .ok (.iconst 1, 1) := by decide +kernel
theorem dL_law_333 : decode cL_law 333 = .ok (.iadd, 1) := by decide +kernel
theorem dL_law_334 : decode cL_law 334 = .ok (.iaload, 1) := by decide +kernel
theorem dL_law_335 : decode cL_law 335 = .ok (.aload_n 0, 1) := by decide +kernel
theorem dL_law_336 : decode cL_law 336 = .ok (.iload_n 3, 1) := by decide +kernel
theorem dL_law_337 : decode cL_law 337 = .ok (.iconst 2, 1) := by decide +kernel
theorem dL_law_338 : decode cL_law 338 = .ok (.iadd, 1) := by decide +kernel
theorem dL_law_339 : decode cL_law 339 = .ok (.iaload, 1) := by decide +kernel
theorem dL_law_340 : decode cL_law 340 = .ok (.aload_n 0, 1) := by decide +kernel
theorem dL_law_341 : decode cL_law 341 = .ok (.iload_n 3, 1) := by decide +kernel
theorem dL_law_342 : decode cL_law 342 = .ok (.iconst 3, 1) := by decide +kernel
theorem dL_law_343 : decode cL_law 343 = .ok (.iadd, 1) := by decide +kernel
theorem dL_law_344 : decode cL_law 344 = .ok (.iaload, 1) := by decide +kernel
theorem dL_law_345 : decode cL_law 345 = .ok (.invokevirtual 37, 3) := by decide +kernel
theorem dL_law_348 : decode cL_law 348 = .ok (.aload_n 2, 1) := by decide +kernel
theorem dL_law_349 : decode cL_law 349 = .ok (.aload_n 0, 1) := by decide +kernel
theorem dL_law_350 : decode cL_law 350 = .ok (.iload_n 3, 1) := by decide +kernel
theorem dL_law_351 : decode cL_law 351 = .ok (.iconst 1, 1) := by decide +kernel
theorem dL_law_352 : decode cL_law 352 = .ok (.iadd, 1) := by decide +kernel
theorem dL_law_353 : decode cL_law 353 = .ok (.iaload, 1) := by decide +kernel
theorem dL_law_354 : decode cL_law 354 = .ok (.aload_n 0, 1) := by decide +kernel
theorem dL_law_355 : decode cL_law 355 = .ok (.iload_n 3, 1) := by decide +kernel
theorem dL_law_356 : decode cL_law 356 = .ok (.iconst 2, 1) := by decide +kernel
theorem dL_law_357 : decode cL_law 357 = .ok (.iadd, 1) := by decide +kernel
theorem dL_law_358 : decode cL_law 358 = .ok (.iaload, 1) := by decide +kernel
theorem dL_law_359 : decode cL_law 359 = .ok (.aload_n 0, 1) := by decide +kernel
theorem dL_law_360 : decode cL_law 360 = .ok (.iload_n 3, 1) := by decide +kernel
theorem dL_law_361 : decode cL_law 361 = .ok (.iconst 3, 1) := by decide +kernel
theorem dL_law_362 : decode cL_law 362 = .ok (.iadd, 1) := by decide +kernel
theorem dL_law_363 : decode cL_law 363 = .ok (.iaload, 1) := by decide +kernel
theorem dL_law_364 : decode cL_law 364 = .ok (.invokevirtual 41, 3) := by decide +kernel
theorem dL_law_367 : decode cL_law 367 = .ok (.if_icmp .eq 759, 3) := by decide +kernel
theorem dL_law_370 : decode cL_law 370 = .ok (.iconst 0, 1) := by decide +kernel
theorem dL_law_371 : decode cL_law 371 = .ok (.ireturn, 1) := by decide +kernel
theorem dL_law_372 : decode cL_law 372 = .ok (.aload_n 1, 1) := by decide +kernel
theorem dL_law_373 : decode cL_law 373 = .ok (.aload_n 0, 1) := by decide +kernel
theorem dL_law_374 : decode cL_law 374 = .ok (.iload_n 3, 1) := by decide +kernel
theorem dL_law_375 : decode cL_law 375 = .ok (.iconst 1, 1) := by decide +kernel
theorem dL_law_376 : decode cL_law 376 = .ok (.iadd, 1) := by decide +kernel
theorem dL_law_377 : decode cL_law 377 = .ok (.iaload, 1) := by decide +kernel
theorem dL_law_378 : decode cL_law 378 = .ok (.aload_n 0, 1) := by decide +kernel
theorem dL_law_379 : decode cL_law 379 = .ok (.iload_n 3, 1) := by decide +kernel
theorem dL_law_380 : decode cL_law 380 = .ok (.iconst 2, 1) := by decide +kernel
theorem dL_law_381 : decode cL_law 381 = .ok (.iadd, 1) := by decide +kernel
theorem dL_law_382 : decode cL_law 382 = .ok (.iaload, 1) := by decide +kernel
theorem dL_law_383 : decode cL_law 383 = .ok (.invokevirtual 42, 3) := by decide +kernel
theorem dL_law_386 : decode cL_law 386 = .ok (.aload_n 2, 1) := by decide +kernel
theorem dL_law_387 : decode cL_law 387 = .ok (.aload_n 0, 1) := by decide +kernel
theorem dL_law_388 : decode cL_law 388 = .ok (.iload_n 3, 1) := by decide +kernel
theorem dL_law_389 : decode cL_law 389 = .ok (.iconst 1, 1) := by decide +kernel
theorem dL_law_390 : decode cL_law 390 = .ok (.iadd, 1) := by decide +kernel
theorem dL_law_391 : decode cL_law 391 = .ok (.iaload, 1) := by decide +kernel
theorem dL_law_392 : decode cL_law 392 = .ok (.aload_n 0, 1) := by decide +kernel
theorem dL_law_393 : decode cL_law 393 = .ok (.iload_n 3, 1) := by decide +kernel
theorem dL_law_394 : decode cL_law 394 = .ok (.iconst 2, 1) := by decide +kernel
theorem dL_law_395 : decode cL_law 395 = .ok (.iadd, 1) := by decide +kernel
theorem dL_law_396 : decode cL_law 396 = .ok (.iaload, 1) := by decide +kernel
theorem dL_law_397 : decode cL_law 397 = .ok (.invokevirtual 46, 3) := by decide +kernel
theorem dL_law_400 : decode cL_law 400 = .ok (.if_icmp .eq 726, 3) := by decide +kernel
theorem dL_law_403 : decode cL_law 403 = .ok (.iconst 0, 1) := by decide +kernel
theorem dL_law_404 : decode cL_law 404 = .ok (.ireturn, 1) := by decide +kernel
theorem dL_law_405 : decode cL_law 405 = .ok (.aload_n 1, 1) := by decide +kernel
theorem dL_law_406 : decode cL_law 406 = .ok (.aload_n 0, 1) := by decide +kernel
theorem dL_law_407 : decode cL_law 407 = .ok (.iload_n 3, 1) := by decide +kernel
theorem dL_law_408 : decode cL_law 408 = .ok (.iconst 1, 1) := by decide +kernel
theorem dL_law_409 : decode cL_law 409 = .ok (.iadd, 1) := by decide +kernel
theorem dL_law_410 : decode cL_law 410 = .ok (.iaload, 1) := by decide +kernel
theorem dL_law_411 : decode cL_law 411 = .ok (.aload_n 0, 1) := by decide +kernel
theorem dL_law_412 : decode cL_law 412 = .ok (.iload_n 3, 1) := by decide +kernel
theorem dL_law_413 : decode cL_law 413 = .ok (.iconst 2, 1) := by decide +kernel
theorem dL_law_414 : decode cL_law 414 = .ok (.iadd, 1) := by decide +kernel
theorem dL_law_415 : decode cL_law 415 = .ok (.iaload, 1) := by decide +kernel
theorem dL_law_416 : decode cL_law 416 = .ok (.invokevirtual 47, 3) := by decide +kernel
theorem dL_law_419 : decode cL_law 419 = .ok (.aload_n 2, 1) := by decide +kernel
theorem dL_law_420 : decode cL_law 420 = .ok (.aload_n 0, 1) := by decide +kernel
theorem dL_law_421 : decode cL_law 421 = .ok (.iload_n 3, 1) := by decide +kernel
theorem dL_law_422 : decode cL_law 422 = .ok (.iconst 1, 1) := by decide +kernel
theorem dL_law_423 : decode cL_law 423 = .ok (.iadd, 1) := by decide +kernel
theorem dL_law_424 : decode cL_law 424 = .ok (.iaload, 1) := by decide +kernel
theorem dL_law_425 : decode cL_law 425 = .ok (.aload_n 0, 1) := by decide +kernel
theorem dL_law_426 : decode cL_law 426 = .ok (.iload_n 3, 1) := by decide +kernel
theorem dL_law_427 : decode cL_law 427 = .ok (.iconst 2, 1) := by decide +kernel
theorem dL_law_428 : decode cL_law 428 = .ok (.iadd, 1) := by decide +kernel
theorem dL_law_429 : decode cL_law 429 = .ok (.iaload, 1) := by decide +kernel
theorem dL_law_430 : decode cL_law 430 = .ok (.invokevirtual 50, 3) := by decide +kernel
theorem dL_law_433 : decode cL_law 433 = .ok (.if_icmp .eq 693, 3) := by decide +kernel
theorem dL_law_436 : decode cL_law 436 = .ok (.iconst 0, 1) := by decide +kernel
theorem dL_law_437 : decode cL_law 437 = .ok (.ireturn, 1) := by decide +kernel
theorem dL_law_438 : decode cL_law 438 = .ok (.aload_n 1, 1) := by decide +kernel
theorem dL_law_439 : decode cL_law 439 = .ok (.aload_n 0, 1) := by decide +kernel
theorem dL_law_440 : decode cL_law 440 = .ok (.iload_n 3, 1) := by decide +kernel
theorem dL_law_441 : decode cL_law 441 = .ok (.iconst 1, 1) := by decide +kernel
theorem dL_law_442 : decode cL_law 442 = .ok (.iadd, 1) := by decide +kernel
theorem dL_law_443 : decode cL_law 443 = .ok (.iaload, 1) := by decide +kernel
theorem dL_law_444 : decode cL_law 444 = .ok (.aload_n 0, 1) := by decide +kernel
theorem dL_law_445 : decode cL_law 445 = .ok (.iload_n 3, 1) := by decide +kernel
theorem dL_law_446 : decode cL_law 446 = .ok (.iconst 2, 1) := by decide +kernel
theorem dL_law_447 : decode cL_law 447 = .ok (.iadd, 1) := by decide +kernel
theorem dL_law_448 : decode cL_law 448 = .ok (.iaload, 1) := by decide +kernel
theorem dL_law_449 : decode cL_law 449 = .ok (.invokevirtual 51, 3) := by decide +kernel
theorem dL_law_452 : decode cL_law 452 = .ok (.aload_n 2, 1) := by decide +kernel
theorem dL_law_453 : decode cL_law 453 = .ok (.aload_n 0, 1) := by decide +kernel
theorem dL_law_454 : decode cL_law 454 = .ok (.iload_n 3, 1) := by decide +kernel
theorem dL_law_455 : decode cL_law 455 = .ok (.iconst 1, 1) := by decide +kernel
theorem dL_law_456 : decode cL_law 456 = .ok (.iadd, 1) := by decide +kernel
theorem dL_law_457 : decode cL_law 457 = .ok (.iaload, 1) := by decide +kernel
theorem dL_law_458 : decode cL_law 458 = .ok (.aload_n 0, 1) := by decide +kernel
theorem dL_law_459 : decode cL_law 459 = .ok (.iload_n 3, 1) := by decide +kernel
theorem dL_law_460 : decode cL_law 460 = .ok (.iconst 2, 1) := by decide +kernel
theorem dL_law_461 : decode cL_law 461 = .ok (.iadd, 1) := by decide +kernel
theorem dL_law_462 : decode cL_law 462 = .ok (.iaload, 1) := by decide +kernel
theorem dL_law_463 : decode cL_law 463 = .ok (.invokevirtual 54, 3) := by decide +kernel
theorem dL_law_466 : decode cL_law 466 = .ok (.if_icmp .eq 660, 3) := by decide +kernel
theorem dL_law_469 : decode cL_law 469 = .ok (.iconst 0, 1) := by decide +kernel
theorem dL_law_470 : decode cL_law 470 = .ok (.ireturn, 1) := by decide +kernel
theorem dL_law_471 : decode cL_law 471 = .ok (.aload_n 1, 1) := by decide +kernel
theorem dL_law_472 : decode cL_law 472 = .ok (.aload_n 0, 1) := by decide +kernel
theorem dL_law_473 : decode cL_law 473 = .ok (.iload_n 3, 1) := by decide +kernel
theorem dL_law_474 : decode cL_law 474 = .ok (.iconst 1, 1) := by decide +kernel
theorem dL_law_475 : decode cL_law 475 = .ok (.iadd, 1) := by decide +kernel
theorem dL_law_476 : decode cL_law 476 = .ok (.iaload, 1) := by decide +kernel
theorem dL_law_477 : decode cL_law 477 = .ok (.aload_n 0, 1) := by decide +kernel
theorem dL_law_478 : decode cL_law 478 = .ok (.iload_n 3, 1) := by decide +kernel
theorem dL_law_479 : decode cL_law 479 = .ok (.iconst 2, 1) := by decide +kernel
theorem dL_law_480 : decode cL_law 480 = .ok (.iadd, 1) := by decide +kernel
theorem dL_law_481 : decode cL_law 481 = .ok (.iaload, 1) := by decide +kernel
theorem dL_law_482 : decode cL_law 482 = .ok (.aload_n 0, 1) := by decide +kernel
theorem dL_law_483 : decode cL_law 483 = .ok (.iload_n 3, 1) := by decide +kernel
theorem dL_law_484 : decode cL_law 484 = .ok (.iconst 3, 1) := by decide +kernel
theorem dL_law_485 : decode cL_law 485 = .ok (.iadd, 1) := by decide +kernel
theorem dL_law_486 : decode cL_law 486 = .ok (.iaload, 1) := by decide +kernel
theorem dL_law_487 : decode cL_law 487 = .ok (.invokevirtual 55, 3) := by decide +kernel
theorem dL_law_490 : decode cL_law 490 = .ok (.aload_n 2, 1) := by decide +kernel
theorem dL_law_491 : decode cL_law 491 = .ok (.aload_n 0, 1) := by decide +kernel
theorem dL_law_492 : decode cL_law 492 = .ok (.iload_n 3, 1) := by decide +kernel
theorem dL_law_493 : decode cL_law 493 = .ok (.iconst 1, 1) := by decide +kernel
theorem dL_law_494 : decode cL_law 494 = .ok (.iadd, 1) := by decide +kernel
theorem dL_law_495 : decode cL_law 495 = .ok (.iaload, 1) := by decide +kernel
theorem dL_law_496 : decode cL_law 496 = .ok (.aload_n 0, 1) := by decide +kernel
theorem dL_law_497 : decode cL_law 497 = .ok (.iload_n 3, 1) := by decide +kernel
theorem dL_law_498 : decode cL_law 498 = .ok (.iconst 2, 1) := by decide +kernel
theorem dL_law_499 : decode cL_law 499 = .ok (.iadd, 1) := by decide +kernel
theorem dL_law_500 : decode cL_law 500 = .ok (.iaload, 1) := by decide +kernel
theorem dL_law_501 : decode cL_law 501 = .ok (.aload_n 0, 1) := by decide +kernel
theorem dL_law_502 : decode cL_law 502 = .ok (.iload_n 3, 1) := by decide +kernel
theorem dL_law_503 : decode cL_law 503 = .ok (.iconst 3, 1) := by decide +kernel
theorem dL_law_504 : decode cL_law 504 = .ok (.iadd, 1) := by decide +kernel
theorem dL_law_505 : decode cL_law 505 = .ok (.iaload, 1) := by decide +kernel
theorem dL_law_506 : decode cL_law 506 = .ok (.invokevirtual 58, 3) := by decide +kernel
theorem dL_law_509 : decode cL_law 509 = .ok (.if_icmp .eq 617, 3) := by decide +kernel
theorem dL_law_512 : decode cL_law 512 = .ok (.iconst 0, 1) := by decide +kernel
theorem dL_law_513 : decode cL_law 513 = .ok (.ireturn, 1) := by decide +kernel
theorem dL_law_514 : decode cL_law 514 = .ok (.aload_n 1, 1) := by decide +kernel
theorem dL_law_515 : decode cL_law 515 = .ok (.aload_n 0, 1) := by decide +kernel
theorem dL_law_516 : decode cL_law 516 = .ok (.iload_n 3, 1) := by decide +kernel
theorem dL_law_517 : decode cL_law 517 = .ok (.iconst 1, 1) := by decide +kernel
theorem dL_law_518 : decode cL_law 518 = .ok (.iadd, 1) := by decide +kernel
theorem dL_law_519 : decode cL_law 519 = .ok (.iaload, 1) := by decide +kernel
theorem dL_law_520 : decode cL_law 520 = .ok (.aload_n 0, 1) := by decide +kernel
theorem dL_law_521 : decode cL_law 521 = .ok (.iload_n 3, 1) := by decide +kernel
theorem dL_law_522 : decode cL_law 522 = .ok (.iconst 2, 1) := by decide +kernel
theorem dL_law_523 : decode cL_law 523 = .ok (.iadd, 1) := by decide +kernel
theorem dL_law_524 : decode cL_law 524 = .ok (.iaload, 1) := by decide +kernel
theorem dL_law_525 : decode cL_law 525 = .ok (.aload_n 0, 1) := by decide +kernel
theorem dL_law_526 : decode cL_law 526 = .ok (.iload_n 3, 1) := by decide +kernel
theorem dL_law_527 : decode cL_law 527 = .ok (.iconst 3, 1) := by decide +kernel
theorem dL_law_528 : decode cL_law 528 = .ok (.iadd, 1) := by decide +kernel
theorem dL_law_529 : decode cL_law 529 = .ok (.iaload, 1) := by decide +kernel
theorem dL_law_530 : decode cL_law 530 = .ok (.invokevirtual 59, 3) := by decide +kernel
theorem dL_law_533 : decode cL_law 533 = .ok (.aload_n 2, 1) := by decide +kernel
theorem dL_law_534 : decode cL_law 534 = .ok (.aload_n 0, 1) := by decide +kernel
theorem dL_law_535 : decode cL_law 535 = .ok (.iload_n 3, 1) := by decide +kernel
theorem dL_law_536 : decode cL_law 536 = .ok (.iconst 1, 1) := by decide +kernel
theorem dL_law_537 : decode cL_law 537 = .ok (.iadd, 1) := by decide +kernel
theorem dL_law_538 : decode cL_law 538 = .ok (.iaload, 1) := by decide +kernel
theorem dL_law_539 : decode cL_law 539 = .ok (.aload_n 0, 1) := by decide +kernel
theorem dL_law_540 : decode cL_law 540 = .ok (.iload_n 3, 1) := by decide +kernel
theorem dL_law_541 : decode cL_law 541 = .ok (.iconst 2, 1) := by decide +kernel
theorem dL_law_542 : decode cL_law 542 = .ok (.iadd, 1) := by decide +kernel
theorem dL_law_543 : decode cL_law 543 = .ok (.iaload, 1) := by decide +kernel
theorem dL_law_544 : decode cL_law 544 = .ok (.aload_n 0, 1) := by decide +kernel
theorem dL_law_545 : decode cL_law 545 = .ok (.iload_n 3, 1) := by decide +kernel
theorem dL_law_546 : decode cL_law 546 = .ok (.iconst 3, 1) := by decide +kernel
theorem dL_law_547 : decode cL_law 547 = .ok (.iadd, 1) := by decide +kernel
theorem dL_law_548 : decode cL_law 548 = .ok (.iaload, 1) := by decide +kernel
theorem dL_law_549 : decode cL_law 549 = .ok (.invokevirtual 62, 3) := by decide +kernel
theorem dL_law_552 : decode cL_law 552 = .ok (.if_icmp .eq 574, 3) := by decide +kernel
theorem dL_law_555 : decode cL_law 555 = .ok (.iconst 0, 1) := by decide +kernel
theorem dL_law_556 : decode cL_law 556 = .ok (.ireturn, 1) := by decide +kernel
theorem dL_law_557 : decode cL_law 557 = .ok (.aload_n 1, 1) := by decide +kernel
theorem dL_law_558 : decode cL_law 558 = .ok (.aload_n 0, 1) := by decide +kernel
theorem dL_law_559 : decode cL_law 559 = .ok (.iload_n 3, 1) := by decide +kernel
theorem dL_law_560 : decode cL_law 560 = .ok (.iconst 1, 1) := by decide +kernel
theorem dL_law_561 : decode cL_law 561 = .ok (.iadd, 1) := by decide +kernel
theorem dL_law_562 : decode cL_law 562 = .ok (.iaload, 1) := by decide +kernel
theorem dL_law_563 : decode cL_law 563 = .ok (.aload_n 0, 1) := by decide +kernel
theorem dL_law_564 : decode cL_law 564 = .ok (.iload_n 3, 1) := by decide +kernel
theorem dL_law_565 : decode cL_law 565 = .ok (.iconst 2, 1) := by decide +kernel
theorem dL_law_566 : decode cL_law 566 = .ok (.iadd, 1) := by decide +kernel
theorem dL_law_567 : decode cL_law 567 = .ok (.iaload, 1) := by decide +kernel
theorem dL_law_568 : decode cL_law 568 = .ok (.aload_n 0, 1) := by decide +kernel
theorem dL_law_569 : decode cL_law 569 = .ok (.iload_n 3, 1) := by decide +kernel
theorem dL_law_570 : decode cL_law 570 = .ok (.iconst 3, 1) := by decide +kernel
theorem dL_law_571 : decode cL_law 571 = .ok (.iadd, 1) := by decide +kernel
theorem dL_law_572 : decode cL_law 572 = .ok (.iaload, 1) := by decide +kernel
theorem dL_law_573 : decode cL_law 573 = .ok (.aload_n 0, 1) := by decide +kernel
theorem dL_law_574 : decode cL_law 574 = .ok (.iload_n 3, 1) := by decide +kernel
theorem dL_law_575 : decode cL_law 575 = .ok (.iconst 4, 1) := by decide +kernel
theorem dL_law_576 : decode cL_law 576 = .ok (.iadd, 1) := by decide +kernel
theorem dL_law_577 : decode cL_law 577 = .ok (.iaload, 1) := by decide +kernel
theorem dL_law_578 : decode cL_law 578 = .ok (.invokevirtual 63, 3) := by decide +kernel
theorem dL_law_581 : decode cL_law 581 = .ok (.aload_n 2, 1) := by decide +kernel
theorem dL_law_582 : decode cL_law 582 = .ok (.aload_n 0, 1) := by decide +kernel
theorem dL_law_583 : decode cL_law 583 = .ok (.iload_n 3, 1) := by decide +kernel
theorem dL_law_584 : decode cL_law 584 = .ok (.iconst 1, 1) := by decide +kernel
theorem dL_law_585 : decode cL_law 585 = .ok (.iadd, 1) := by decide +kernel
theorem dL_law_586 : decode cL_law 586 = .ok (.iaload, 1) := by decide +kernel
theorem dL_law_587 : decode cL_law 587 = .ok (.aload_n 0, 1) := by decide +kernel
theorem dL_law_588 : decode cL_law 588 = .ok (.iload_n 3, 1) := by decide +kernel
theorem dL_law_589 : decode cL_law 589 = .ok (.iconst 2, 1) := by decide +kernel
theorem dL_law_590 : decode cL_law 590 = .ok (.iadd, 1) := by decide +kernel
theorem dL_law_591 : decode cL_law 591 = .ok (.iaload, 1) := by decide +kernel
theorem dL_law_592 : decode cL_law 592 = .ok (.aload_n 0, 1) := by decide +kernel
theorem dL_law_593 : decode cL_law 593 = .ok (.iload_n 3, 1) := by decide +kernel
theorem dL_law_594 : decode cL_law 594 = .ok (.iconst 3, 1) := by decide +kernel
theorem dL_law_595 : decode cL_law 595 = .ok (.iadd, 1) := by decide +kernel
theorem dL_law_596 : decode cL_law 596 = .ok (.iaload, 1) := by decide +kernel
theorem dL_law_597 : decode cL_law 597 = .ok (.aload_n 0, 1) := by decide +kernel
theorem dL_law_598 : decode cL_law 598 = .ok (.iload_n 3, 1) := by decide +kernel
theorem dL_law_599 : decode cL_law 599 = .ok (.iconst 4, 1) := by decide +kernel
theorem dL_law_600 : decode cL_law 600 = .ok (.iadd, 1) := by decide +kernel
theorem dL_law_601 : decode cL_law 601 = .ok (.iaload, 1) := by decide +kernel
theorem dL_law_602 : decode cL_law 602 = .ok (.invokevirtual 67, 3) := by decide +kernel
theorem dL_law_605 : decode cL_law 605 = .ok (.if_icmp .eq 521, 3) := by decide +kernel
theorem dL_law_608 : decode cL_law 608 = .ok (.iconst 0, 1) := by decide +kernel
theorem dL_law_609 : decode cL_law 609 = .ok (.ireturn, 1) := by decide +kernel
theorem dL_law_610 : decode cL_law 610 = .ok (.aload_n 1, 1) := by decide +kernel
theorem dL_law_611 : decode cL_law 611 = .ok (.aload_n 0, 1) := by decide +kernel
theorem dL_law_612 : decode cL_law 612 = .ok (.iload_n 3, 1) := by decide +kernel
theorem dL_law_613 : decode cL_law 613 = .ok (.iconst 1, 1) := by decide +kernel
theorem dL_law_614 : decode cL_law 614 = .ok (.iadd, 1) := by decide +kernel
theorem dL_law_615 : decode cL_law 615 = .ok (.iaload, 1) := by decide +kernel
theorem dL_law_616 : decode cL_law 616 = .ok (.invokevirtual 68, 3) := by decide +kernel
theorem dL_law_619 : decode cL_law 619 = .ok (.aload_n 2, 1) := by decide +kernel
theorem dL_law_620 : decode cL_law 620 = .ok (.aload_n 0, 1) := by decide +kernel
theorem dL_law_621 : decode cL_law 621 = .ok (.iload_n 3, 1) := by decide +kernel
theorem dL_law_622 : decode cL_law 622 = .ok (.iconst 1, 1) := by decide +kernel
theorem dL_law_623 : decode cL_law 623 = .ok (.iadd, 1) := by decide +kernel
theorem dL_law_624 : decode cL_law 624 = .ok (.iaload, 1) := by decide +kernel
theorem dL_law_625 : decode cL_law 625 = .ok (.invokevirtual 71, 3) := by decide +kernel
theorem dL_law_628 : decode cL_law 628 = .ok (.if_icmp .eq 498, 3) := by decide +kernel
theorem dL_law_631 : decode cL_law 631 = .ok (.iconst 0, 1) := by decide +kernel
theorem dL_law_632 : decode cL_law 632 = .ok (.ireturn, 1) := by decide +kernel
theorem dL_law_633 : decode cL_law 633 = .ok (.aload_n 1, 1) := by decide +kernel
theorem dL_law_634 : decode cL_law 634 = .ok (.aload_n 0, 1) := by decide +kernel
theorem dL_law_635 : decode cL_law 635 = .ok (.iload_n 3, 1) := by decide +kernel
theorem dL_law_636 : decode cL_law 636 = .ok (.iconst 1, 1) := by decide +kernel
theorem dL_law_637 : decode cL_law 637 = .ok (.iadd, 1) := by decide +kernel
theorem dL_law_638 : decode cL_law 638 = .ok (.iaload, 1) := by decide +kernel
theorem dL_law_639 : decode cL_law 639 = .ok (.aload_n 0, 1) := by decide +kernel
theorem dL_law_640 : decode cL_law 640 = .ok (.iload_n 3, 1) := by decide +kernel
theorem dL_law_641 : decode cL_law 641 = .ok (.iconst 2, 1) := by decide +kernel
theorem dL_law_642 : decode cL_law 642 = .ok (.iadd, 1) := by decide +kernel
theorem dL_law_643 : decode cL_law 643 = .ok (.iaload, 1) := by decide +kernel
theorem dL_law_644 : decode cL_law 644 = .ok (.invokevirtual 72, 3) := by decide +kernel
theorem dL_law_647 : decode cL_law 647 = .ok (.aload_n 2, 1) := by decide +kernel
theorem dL_law_648 : decode cL_law 648 = .ok (.aload_n 0, 1) := by decide +kernel
theorem dL_law_649 : decode cL_law 649 = .ok (.iload_n 3, 1) := by decide +kernel
theorem dL_law_650 : decode cL_law 650 = .ok (.iconst 1, 1) := by decide +kernel
theorem dL_law_651 : decode cL_law 651 = .ok (.iadd, 1) := by decide +kernel
theorem dL_law_652 : decode cL_law 652 = .ok (.iaload, 1) := by decide +kernel
theorem dL_law_653 : decode cL_law 653 = .ok (.aload_n 0, 1) := by decide +kernel
theorem dL_law_654 : decode cL_law 654 = .ok (.iload_n 3, 1) := by decide +kernel
theorem dL_law_655 : decode cL_law 655 = .ok (.iconst 2, 1) := by decide +kernel
theorem dL_law_656 : decode cL_law 656 = .ok (.iadd, 1) := by decide +kernel
theorem dL_law_657 : decode cL_law 657 = .ok (.iaload, 1) := by decide +kernel
theorem dL_law_658 : decode cL_law 658 = .ok (.invokevirtual 75, 3) := by decide +kernel
theorem dL_law_661 : decode cL_law 661 = .ok (.if_icmp .eq 465, 3) := by decide +kernel
theorem dL_law_664 : decode cL_law 664 = .ok (.iconst 0, 1) := by decide +kernel
theorem dL_law_665 : decode cL_law 665 = .ok (.ireturn, 1) := by decide +kernel
theorem dL_law_666 : decode cL_law 666 = .ok (.aload_n 1, 1) := by decide +kernel
theorem dL_law_667 : decode cL_law 667 = .ok (.aload_n 0, 1) := by decide +kernel
theorem dL_law_668 : decode cL_law 668 = .ok (.iload_n 3, 1) := by decide +kernel
theorem dL_law_669 : decode cL_law 669 = .ok (.iconst 1, 1) := by decide +kernel
theorem dL_law_670 : decode cL_law 670 = .ok (.iadd, 1) := by decide +kernel
theorem dL_law_671 : decode cL_law 671 = .ok (.iaload, 1) := by decide +kernel
theorem dL_law_672 : decode cL_law 672 = .ok (.invokevirtual 76, 3) := by decide +kernel
theorem dL_law_675 : decode cL_law 675 = .ok (.aload_n 2, 1) := by decide +kernel
theorem dL_law_676 : decode cL_law 676 = .ok (.aload_n 0, 1) := by decide +kernel
theorem dL_law_677 : decode cL_law 677 = .ok (.iload_n 3, 1) := by decide +kernel
theorem dL_law_678 : decode cL_law 678 = .ok (.iconst 1, 1) := by decide +kernel
theorem dL_law_679 : decode cL_law 679 = .ok (.iadd, 1) := by decide +kernel
theorem dL_law_680 : decode cL_law 680 = .ok (.iaload, 1) := by decide +kernel
theorem dL_law_681 : decode cL_law 681 = .ok (.invokevirtual 79, 3) := by decide +kernel
theorem dL_law_684 : decode cL_law 684 = .ok (.if_icmp .eq 442, 3) := by decide +kernel
theorem dL_law_687 : decode cL_law 687 = .ok (.iconst 0, 1) := by decide +kernel
theorem dL_law_688 : decode cL_law 688 = .ok (.ireturn, 1) := by decide +kernel
theorem dL_law_689 : decode cL_law 689 = .ok (.aload_n 1, 1) := by decide +kernel
theorem dL_law_690 : decode cL_law 690 = .ok (.aload_n 0, 1) := by decide +kernel
theorem dL_law_691 : decode cL_law 691 = .ok (.iload_n 3, 1) := by decide +kernel
theorem dL_law_692 : decode cL_law 692 = .ok (.iconst 1, 1) := by decide +kernel
theorem dL_law_693 : decode cL_law 693 = .ok (.iadd, 1) := by decide +kernel
theorem dL_law_694 : decode cL_law 694 = .ok (.iaload, 1) := by decide +kernel
theorem dL_law_695 : decode cL_law 695 = .ok (.invokevirtual 80, 3) := by decide +kernel
theorem dL_law_698 : decode cL_law 698 = .ok (.aload_n 2, 1) := by decide +kernel
theorem dL_law_699 : decode cL_law 699 = .ok (.aload_n 0, 1) := by decide +kernel
theorem dL_law_700 : decode cL_law 700 = .ok (.iload_n 3, 1) := by decide +kernel
theorem dL_law_701 : decode cL_law 701 = .ok (.iconst 1, 1) := by decide +kernel
theorem dL_law_702 : decode cL_law 702 = .ok (.iadd, 1) := by decide +kernel
theorem dL_law_703 : decode cL_law 703 = .ok (.iaload, 1) := by decide +kernel
theorem dL_law_704 : decode cL_law 704 = .ok (.invokevirtual 83, 3) := by decide +kernel
theorem dL_law_707 : decode cL_law 707 = .ok (.if_icmp .eq 419, 3) := by decide +kernel
theorem dL_law_710 : decode cL_law 710 = .ok (.iconst 0, 1) := by decide +kernel
theorem dL_law_711 : decode cL_law 711 = .ok (.ireturn, 1) := by decide +kernel
theorem dL_law_712 : decode cL_law 712 = .ok (.aload_n 1, 1) := by decide +kernel
theorem dL_law_713 : decode cL_law 713 = .ok (.aload_n 0, 1) := by decide +kernel
theorem dL_law_714 : decode cL_law 714 = .ok (.iload_n 3, 1) := by decide +kernel
theorem dL_law_715 : decode cL_law 715 = .ok (.iconst 1, 1) := by decide +kernel
theorem dL_law_716 : decode cL_law 716 = .ok (.iadd, 1) := by decide +kernel
theorem dL_law_717 : decode cL_law 717 = .ok (.iaload, 1) := by decide +kernel
theorem dL_law_718 : decode cL_law 718 = .ok (.invokevirtual 84, 3) := by decide +kernel
theorem dL_law_721 : decode cL_law 721 = .ok (.aload_n 2, 1) := by decide +kernel
theorem dL_law_722 : decode cL_law 722 = .ok (.aload_n 0, 1) := by decide +kernel
theorem dL_law_723 : decode cL_law 723 = .ok (.iload_n 3, 1) := by decide +kernel
theorem dL_law_724 : decode cL_law 724 = .ok (.iconst 1, 1) := by decide +kernel
theorem dL_law_725 : decode cL_law 725 = .ok (.iadd, 1) := by decide +kernel
theorem dL_law_726 : decode cL_law 726 = .ok (.iaload, 1) := by decide +kernel
theorem dL_law_727 : decode cL_law 727 = .ok (.invokevirtual 87, 3) := by decide +kernel
theorem dL_law_730 : decode cL_law 730 = .ok (.if_icmp .eq 396, 3) := by decide +kernel
theorem dL_law_733 : decode cL_law 733 = .ok (.iconst 0, 1) := by decide +kernel
theorem dL_law_734 : decode cL_law 734 = .ok (.ireturn, 1) := by decide +kernel
theorem dL_law_735 : decode cL_law 735 = .ok (.aload_n 1, 1) := by decide +kernel
theorem dL_law_736 : decode cL_law 736 = .ok (.aload_n 0, 1) := by decide +kernel
theorem dL_law_737 : decode cL_law 737 = .ok (.iload_n 3, 1) := by decide +kernel
theorem dL_law_738 : decode cL_law 738 = .ok (.iconst 1, 1) := by decide +kernel
theorem dL_law_739 : decode cL_law 739 = .ok (.iadd, 1) := by decide +kernel
theorem dL_law_740 : decode cL_law 740 = .ok (.iaload, 1) := by decide +kernel
theorem dL_law_741 : decode cL_law 741 = .ok (.aload_n 0, 1) := by decide +kernel
theorem dL_law_742 : decode cL_law 742 = .ok (.iload_n 3, 1) := by decide +kernel
theorem dL_law_743 : decode cL_law 743 = .ok (.iconst 2, 1) := by decide +kernel
theorem dL_law_744 : decode cL_law 744 = .ok (.iadd, 1) := by decide +kernel
theorem dL_law_745 : decode cL_law 745 = .ok (.iaload, 1) := by decide +kernel
theorem dL_law_746 : decode cL_law 746 = .ok (.invokevirtual 88, 3) := by decide +kernel
theorem dL_law_749 : decode cL_law 749 = .ok (.aload_n 2, 1) := by decide +kernel
theorem dL_law_750 : decode cL_law 750 = .ok (.aload_n 0, 1) := by decide +kernel
theorem dL_law_751 : decode cL_law 751 = .ok (.iload_n 3, 1) := by decide +kernel
theorem dL_law_752 : decode cL_law 752 = .ok (.iconst 1, 1) := by decide +kernel
theorem dL_law_753 : decode cL_law 753 = .ok (.iadd, 1) := by decide +kernel
theorem dL_law_754 : decode cL_law 754 = .ok (.iaload, 1) := by decide +kernel
theorem dL_law_755 : decode cL_law 755 = .ok (.aload_n 0, 1) := by decide +kernel
theorem dL_law_756 : decode cL_law 756 = .ok (.iload_n 3, 1) := by decide +kernel
theorem dL_law_757 : decode cL_law 757 = .ok (.iconst 2, 1) := by decide +kernel
theorem dL_law_758 : decode cL_law 758 = .ok (.iadd, 1) := by decide +kernel
theorem dL_law_759 : decode cL_law 759 = .ok (.iaload, 1) := by decide +kernel
theorem dL_law_760 : decode cL_law 760 = .ok (.invokevirtual 91, 3) := by decide +kernel
theorem dL_law_763 : decode cL_law 763 = .ok (.if_icmp .eq 363, 3) := by decide +kernel
theorem dL_law_766 : decode cL_law 766 = .ok (.iconst 0, 1) := by decide +kernel
theorem dL_law_767 : decode cL_law 767 = .ok (.ireturn, 1) := by decide +kernel
theorem dL_law_768 : decode cL_law 768 = .ok (.aload_n 1, 1) := by decide +kernel
theorem dL_law_769 : decode cL_law 769 = .ok (.aload_n 0, 1) := by decide +kernel
theorem dL_law_770 : decode cL_law 770 = .ok (.iload_n 3, 1) := by decide +kernel
theorem dL_law_771 : decode cL_law 771 = .ok (.iconst 1, 1) := by decide +kernel
theorem dL_law_772 : decode cL_law 772 = .ok (.iadd, 1) := by decide +kernel
theorem dL_law_773 : decode cL_law 773 = .ok (.iaload, 1) := by decide +kernel
theorem dL_law_774 : decode cL_law 774 = .ok (.invokevirtual 92, 3) := by decide +kernel
theorem dL_law_777 : decode cL_law 777 = .ok (.aload_n 2, 1) := by decide +kernel
theorem dL_law_778 : decode cL_law 778 = .ok (.aload_n 0, 1) := by decide +kernel
theorem dL_law_779 : decode cL_law 779 = .ok (.iload_n 3, 1) := by decide +kernel
theorem dL_law_780 : decode cL_law 780 = .ok (.iconst 1, 1) := by decide +kernel
theorem dL_law_781 : decode cL_law 781 = .ok (.iadd, 1) := by decide +kernel
theorem dL_law_782 : decode cL_law 782 = .ok (.iaload, 1) := by decide +kernel
theorem dL_law_783 : decode cL_law 783 = .ok (.invokevirtual 95, 3) := by decide +kernel
theorem dL_law_786 : decode cL_law 786 = .ok (.if_icmp .eq 340, 3) := by decide +kernel
theorem dL_law_789 : decode cL_law 789 = .ok (.iconst 0, 1) := by decide +kernel
theorem dL_law_790 : decode cL_law 790 = .ok (.ireturn, 1) := by decide +kernel
theorem dL_law_791 : decode cL_law 791 = .ok (.aload_n 1, 1) := by decide +kernel
theorem dL_law_792 : decode cL_law 792 = .ok (.invokevirtual 96, 3) := by decide +kernel
theorem dL_law_795 : decode cL_law 795 = .ok (.aload_n 2, 1) := by decide +kernel
theorem dL_law_796 : decode cL_law 796 = .ok (.invokevirtual 99, 3) := by decide +kernel
theorem dL_law_799 : decode cL_law 799 = .ok (.if_icmp .eq 327, 3) := by decide +kernel
theorem dL_law_802 : decode cL_law 802 = .ok (.iconst 0, 1) := by decide +kernel
theorem dL_law_803 : decode cL_law 803 = .ok (.ireturn, 1) := by decide +kernel
theorem dL_law_804 : decode cL_law 804 = .ok (.aload_n 1, 1) := by decide +kernel
theorem dL_law_805 : decode cL_law 805 = .ok (.invokevirtual 100, 3) := by decide +kernel
theorem dL_law_808 : decode cL_law 808 = .ok (.aload_n 2, 1) := by decide +kernel
theorem dL_law_809 : decode cL_law 809 = .ok (.invokevirtual 103, 3) := by decide +kernel
theorem dL_law_812 : decode cL_law 812 = .ok (.if_icmp .eq 314, 3) := by decide +kernel
theorem dL_law_815 : decode cL_law 815 = .ok (.iconst 0, 1) := by decide +kernel
theorem dL_law_816 : decode cL_law 816 = .ok (.ireturn, 1) := by decide +kernel
theorem dL_law_817 : decode cL_law 817 = .ok (.aload_n 1, 1) := by decide +kernel
theorem dL_law_818 : decode cL_law 818 = .ok (.aload_n 0, 1) := by decide +kernel
theorem dL_law_819 : decode cL_law 819 = .ok (.iload_n 3, 1) := by decide +kernel
theorem dL_law_820 : decode cL_law 820 = .ok (.iconst 1, 1) := by decide +kernel
theorem dL_law_821 : decode cL_law 821 = .ok (.iadd, 1) := by decide +kernel
theorem dL_law_822 : decode cL_law 822 = .ok (.iaload, 1) := by decide +kernel
theorem dL_law_823 : decode cL_law 823 = .ok (.invokevirtual 104, 3) := by decide +kernel
theorem dL_law_826 : decode cL_law 826 = .ok (.aload_n 2, 1) := by decide +kernel
theorem dL_law_827 : decode cL_law 827 = .ok (.aload_n 0, 1) := by decide +kernel
theorem dL_law_828 : decode cL_law 828 = .ok (.iload_n 3, 1) := by decide +kernel
theorem dL_law_829 : decode cL_law 829 = .ok (.iconst 1, 1) := by decide +kernel
theorem dL_law_830 : decode cL_law 830 = .ok (.iadd, 1) := by decide +kernel
theorem dL_law_831 : decode cL_law 831 = .ok (.iaload, 1) := by decide +kernel
theorem dL_law_832 : decode cL_law 832 = .ok (.invokevirtual 107, 3) := by decide +kernel
theorem dL_law_835 : decode cL_law 835 = .ok (.if_icmp .eq 291, 3) := by decide +kernel
theorem dL_law_838 : decode cL_law 838 = .ok (.iconst 0, 1) := by decide +kernel
theorem dL_law_839 : decode cL_law 839 = .ok (.ireturn, 1) := by decide +kernel
theorem dL_law_840 : decode cL_law 840 = .ok (.aload_n 1, 1) := by decide +kernel
theorem dL_law_841 : decode cL_law 841 = .ok (.aload_n 0, 1) := by decide +kernel
theorem dL_law_842 : decode cL_law 842 = .ok (.iload_n 3, 1) := by decide +kernel
theorem dL_law_843 : decode cL_law 843 = .ok (.iconst 1, 1) := by decide +kernel
theorem dL_law_844 : decode cL_law 844 = .ok (.iadd, 1) := by decide +kernel
theorem dL_law_845 : decode cL_law 845 = .ok (.iaload, 1) := by decide +kernel
theorem dL_law_846 : decode cL_law 846 = .ok (.invokevirtual 108, 3) := by decide +kernel
theorem dL_law_849 : decode cL_law 849 = .ok (.aload_n 2, 1) := by decide +kernel
theorem dL_law_850 : decode cL_law 850 = .ok (.aload_n 0, 1) := by decide +kernel
theorem dL_law_851 : decode cL_law 851 = .ok (.iload_n 3, 1) := by decide +kernel
theorem dL_law_852 : decode cL_law 852 = .ok (.iconst 1, 1) := by decide +kernel
theorem dL_law_853 : decode cL_law 853 = .ok (.iadd, 1) := by decide +kernel
theorem dL_law_854 : decode cL_law 854 = .ok (.iaload, 1) := by decide +kernel
theorem dL_law_855 : decode cL_law 855 = .ok (.invokevirtual 111, 3) := by decide +kernel
theorem dL_law_858 : decode cL_law 858 = .ok (.if_icmp .eq 268, 3) := by decide +kernel
theorem dL_law_861 : decode cL_law 861 = .ok (.iconst 0, 1) := by decide +kernel
theorem dL_law_862 : decode cL_law 862 = .ok (.ireturn, 1) := by decide +kernel
theorem dL_law_863 : decode cL_law 863 = .ok (.aload_n 1, 1) := by decide +kernel
theorem dL_law_864 : decode cL_law 864 = .ok (.aload_n 0, 1) := by decide +kernel
theorem dL_law_865 : decode cL_law 865 = .ok (.iload_n 3, 1) := by decide +kernel
theorem dL_law_866 : decode cL_law 866 = .ok (.iconst 1, 1) := by decide +kernel
theorem dL_law_867 : decode cL_law 867 = .ok (.iadd, 1) := by decide +kernel
theorem dL_law_868 : decode cL_law 868 = .ok (.iaload, 1) := by decide +kernel
theorem dL_law_869 : decode cL_law 869 = .ok (.invokevirtual 112, 3) := by decide +kernel
theorem dL_law_872 : decode cL_law 872 = .ok (.aload_n 2, 1) := by decide +kernel
theorem dL_law_873 : decode cL_law 873 = .ok (.aload_n 0, 1) := by decide +kernel
theorem dL_law_874 : decode cL_law 874 = .ok (.iload_n 3, 1) := by decide +kernel
theorem dL_law_875 : decode cL_law 875 = .ok (.iconst 1, 1) := by decide +kernel
theorem dL_law_876 : decode cL_law 876 = .ok (.iadd, 1) := by decide +kernel
theorem dL_law_877 : decode cL_law 877 = .ok (.iaload, 1) := by decide +kernel
theorem dL_law_878 : decode cL_law 878 = .ok (.invokevirtual 115, 3) := by decide +kernel
theorem dL_law_881 : decode cL_law 881 = .ok (.if_icmp .eq 245, 3) := by decide +kernel
theorem dL_law_884 : decode cL_law 884 = .ok (.iconst 0, 1) := by decide +kernel
theorem dL_law_885 : decode cL_law 885 = .ok (.ireturn, 1) := by decide +kernel
theorem dL_law_886 : decode cL_law 886 = .ok (.aload_n 1, 1) := by decide +kernel
theorem dL_law_887 : decode cL_law 887 = .ok (.aload_n 0, 1) := by decide +kernel
theorem dL_law_888 : decode cL_law 888 = .ok (.iload_n 3, 1) := by decide +kernel
theorem dL_law_889 : decode cL_law 889 = .ok (.iconst 1, 1) := by decide +kernel
theorem dL_law_890 : decode cL_law 890 = .ok (.iadd, 1) := by decide +kernel
theorem dL_law_891 : decode cL_law 891 = .ok (.iaload, 1) := by decide +kernel
theorem dL_law_892 : decode cL_law 892 = .ok (.aload_n 0, 1) := by decide +kernel
theorem dL_law_893 : decode cL_law 893 = .ok (.iload_n 3, 1) := by decide +kernel
theorem dL_law_894 : decode cL_law 894 = .ok (.iconst 2, 1) := by decide +kernel
theorem dL_law_895 : decode cL_law 895 = .ok (.iadd, 1) := by decide +kernel
theorem dL_law_896 : decode cL_law 896 = .ok (.iaload, 1) := by decide +kernel
theorem dL_law_897 : decode cL_law 897 = .ok (.aload_n 0, 1) := by decide +kernel
theorem dL_law_898 : decode cL_law 898 = .ok (.iload_n 3, 1) := by decide +kernel
theorem dL_law_899 : decode cL_law 899 = .ok (.iconst 3, 1) := by decide +kernel
theorem dL_law_900 : decode cL_law 900 = .ok (.iadd, 1) := by decide +kernel
theorem dL_law_901 : decode cL_law 901 = .ok (.iaload, 1) := by decide +kernel
theorem dL_law_902 : decode cL_law 902 = .ok (.invokevirtual 116, 3) := by decide +kernel
theorem dL_law_905 : decode cL_law 905 = .ok (.aload_n 2, 1) := by decide +kernel
theorem dL_law_906 : decode cL_law 906 = .ok (.aload_n 0, 1) := by decide +kernel
theorem dL_law_907 : decode cL_law 907 = .ok (.iload_n 3, 1) := by decide +kernel
theorem dL_law_908 : decode cL_law 908 = .ok (.iconst 1, 1) := by decide +kernel
theorem dL_law_909 : decode cL_law 909 = .ok (.iadd, 1) := by decide +kernel
theorem dL_law_910 : decode cL_law 910 = .ok (.iaload, 1) := by decide +kernel
theorem dL_law_911 : decode cL_law 911 = .ok (.aload_n 0, 1) := by decide +kernel
theorem dL_law_912 : decode cL_law 912 = .ok (.iload_n 3, 1) := by decide +kernel
theorem dL_law_913 : decode cL_law 913 = .ok (.iconst 2, 1) := by decide +kernel
theorem dL_law_914 : decode cL_law 914 = .ok (.iadd, 1) := by decide +kernel
theorem dL_law_915 : decode cL_law 915 = .ok (.iaload, 1) := by decide +kernel
theorem dL_law_916 : decode cL_law 916 = .ok (.aload_n 0, 1) := by decide +kernel
theorem dL_law_917 : decode cL_law 917 = .ok (.iload_n 3, 1) := by decide +kernel
theorem dL_law_918 : decode cL_law 918 = .ok (.iconst 3, 1) := by decide +kernel
theorem dL_law_919 : decode cL_law 919 = .ok (.iadd, 1) := by decide +kernel
theorem dL_law_920 : decode cL_law 920 = .ok (.iaload, 1) := by decide +kernel
theorem dL_law_921 : decode cL_law 921 = .ok (.invokevirtual 120, 3) := by decide +kernel
theorem dL_law_924 : decode cL_law 924 = .ok (.if_icmp .eq 202, 3) := by decide +kernel
theorem dL_law_927 : decode cL_law 927 = .ok (.iconst 0, 1) := by decide +kernel
theorem dL_law_928 : decode cL_law 928 = .ok (.ireturn, 1) := by decide +kernel
theorem dL_law_929 : decode cL_law 929 = .ok (.aload_n 1, 1) := by decide +kernel
theorem dL_law_930 : decode cL_law 930 = .ok (.aload_n 0, 1) := by decide +kernel
theorem dL_law_931 : decode cL_law 931 = .ok (.iload_n 3, 1) := by decide +kernel
theorem dL_law_932 : decode cL_law 932 = .ok (.iconst 1, 1) := by decide +kernel
theorem dL_law_933 : decode cL_law 933 = .ok (.iadd, 1) := by decide +kernel
theorem dL_law_934 : decode cL_law 934 = .ok (.iaload, 1) := by decide +kernel
theorem dL_law_935 : decode cL_law 935 = .ok (.invokevirtual 121, 3) := by decide +kernel
theorem dL_law_938 : decode cL_law 938 = .ok (.aload_n 2, 1) := by decide +kernel
theorem dL_law_939 : decode cL_law 939 = .ok (.aload_n 0, 1) := by decide +kernel
theorem dL_law_940 : decode cL_law 940 = .ok (.iload_n 3, 1) := by decide +kernel
theorem dL_law_941 : decode cL_law 941 = .ok (.iconst 1, 1) := by decide +kernel
theorem dL_law_942 : decode cL_law 942 = .ok (.iadd, 1) := by decide +kernel
theorem dL_law_943 : decode cL_law 943 = .ok (.iaload, 1) := by decide +kernel
theorem dL_law_944 : decode cL_law 944 = .ok (.invokevirtual 124, 3) := by decide +kernel
theorem dL_law_947 : decode cL_law 947 = .ok (.if_icmp .eq 179, 3) := by decide +kernel
theorem dL_law_950 : decode cL_law 950 = .ok (.iconst 0, 1) := by decide +kernel
theorem dL_law_951 : decode cL_law 951 = .ok (.ireturn, 1) := by decide +kernel
theorem dL_law_952 : decode cL_law 952 = .ok (.aload_n 1, 1) := by decide +kernel
theorem dL_law_953 : decode cL_law 953 = .ok (.aload_n 0, 1) := by decide +kernel
theorem dL_law_954 : decode cL_law 954 = .ok (.iload_n 3, 1) := by decide +kernel
theorem dL_law_955 : decode cL_law 955 = .ok (.iconst 1, 1) := by decide +kernel
theorem dL_law_956 : decode cL_law 956 = .ok (.iadd, 1) := by decide +kernel
theorem dL_law_957 : decode cL_law 957 = .ok (.iaload, 1) := by decide +kernel
theorem dL_law_958 : decode cL_law 958 = .ok (.aload_n 0, 1) := by decide +kernel
theorem dL_law_959 : decode cL_law 959 = .ok (.iload_n 3, 1) := by decide +kernel
theorem dL_law_960 : decode cL_law 960 = .ok (.iconst 2, 1) := by decide +kernel
theorem dL_law_961 : decode cL_law 961 = .ok (.iadd, 1) := by decide +kernel
theorem dL_law_962 : decode cL_law 962 = .ok (.iaload, 1) := by decide +kernel
theorem dL_law_963 : decode cL_law 963 = .ok (.invokevirtual 125, 3) := by decide +kernel
theorem dL_law_966 : decode cL_law 966 = .ok (.aload_n 2, 1) := by decide +kernel
theorem dL_law_967 : decode cL_law 967 = .ok (.aload_n 0, 1) := by decide +kernel
theorem dL_law_968 : decode cL_law 968 = .ok (.iload_n 3, 1) := by decide +kernel
theorem dL_law_969 : decode cL_law 969 = .ok (.iconst 1, 1) := by decide +kernel
theorem dL_law_970 : decode cL_law 970 = .ok (.iadd, 1) := by decide +kernel
theorem dL_law_971 : decode cL_law 971 = .ok (.iaload, 1) := by decide +kernel
theorem dL_law_972 : decode cL_law 972 = .ok (.aload_n 0, 1) := by decide +kernel
theorem dL_law_973 : decode cL_law 973 = .ok (.iload_n 3, 1) := by decide +kernel
theorem dL_law_974 : decode cL_law 974 = .ok (.iconst 2, 1) := by decide +kernel
theorem dL_law_975 : decode cL_law 975 = .ok (.iadd, 1) := by decide +kernel
theorem dL_law_976 : decode cL_law 976 = .ok (.iaload, 1) := by decide +kernel
theorem dL_law_977 : decode cL_law 977 = .ok (.invokevirtual 129, 3) := by decide +kernel
theorem dL_law_980 : decode cL_law 980 = .ok (.if_icmp .eq 146, 3) := by decide +kernel
theorem dL_law_983 : decode cL_law 983 = .ok (.iconst 0, 1) := by decide +kernel
theorem dL_law_984 : decode cL_law 984 = .ok (.ireturn, 1) := by decide +kernel
theorem dL_law_985 : decode cL_law 985 = .ok (.aload_n 1, 1) := by decide +kernel
theorem dL_law_986 : decode cL_law 986 = .ok (.invokevirtual 130, 3) := by decide +kernel
theorem dL_law_989 : decode cL_law 989 = .ok (.aload_n 2, 1) := by decide +kernel
theorem dL_law_990 : decode cL_law 990 = .ok (.invokevirtual 134, 3) := by decide +kernel
theorem dL_law_993 : decode cL_law 993 = .ok (.if_icmp .eq 133, 3) := by decide +kernel
theorem dL_law_996 : decode cL_law 996 = .ok (.iconst 0, 1) := by decide +kernel
theorem dL_law_997 : decode cL_law 997 = .ok (.ireturn, 1) := by decide +kernel
theorem dL_law_998 : decode cL_law 998 = .ok (.aload_n 1, 1) := by decide +kernel
theorem dL_law_999 : decode cL_law 999 = .ok (.aload_n 0, 1) := by decide +kernel
theorem dL_law_1000 : decode cL_law 1000 = .ok (.iload_n 3, 1) := by decide +kernel
theorem dL_law_1001 : decode cL_law 1001 = .ok (.iconst 1, 1) := by decide +kernel
theorem dL_law_1002 : decode cL_law 1002 = .ok (.iadd, 1) := by decide +kernel
theorem dL_law_1003 : decode cL_law 1003 = .ok (.iaload, 1) := by decide +kernel
theorem dL_law_1004 : decode cL_law 1004 = .ok (.invokevirtual 135, 3) := by decide +kernel
theorem dL_law_1007 : decode cL_law 1007 = .ok (.aload_n 2, 1) := by decide +kernel
theorem dL_law_1008 : decode cL_law 1008 = .ok (.aload_n 0, 1) := by decide +kernel
theorem dL_law_1009 : decode cL_law 1009 = .ok (.iload_n 3, 1) := by decide +kernel
theorem dL_law_1010 : decode cL_law 1010 = .ok (.iconst 1, 1) := by decide +kernel
theorem dL_law_1011 : decode cL_law 1011 = .ok (.iadd, 1) := by decide +kernel
theorem dL_law_1012 : decode cL_law 1012 = .ok (.iaload, 1) := by decide +kernel
theorem dL_law_1013 : decode cL_law 1013 = .ok (.invokevirtual 138, 3) := by decide +kernel
theorem dL_law_1016 : decode cL_law 1016 = .ok (.if_icmp .eq 110, 3) := by decide +kernel
theorem dL_law_1019 : decode cL_law 1019 = .ok (.iconst 0, 1) := by decide +kernel
theorem dL_law_1020 : decode cL_law 1020 = .ok (.ireturn, 1) := by decide +kernel
theorem dL_law_1021 : decode cL_law 1021 = .ok (.aload_n 1, 1) := by decide +kernel
theorem dL_law_1022 : decode cL_law 1022 = .ok (.aload_n 0, 1) := by decide +kernel
theorem dL_law_1023 : decode cL_law 1023 = .ok (.iload_n 3, 1) := by decide +kernel
theorem dL_law_1024 : decode cL_law 1024 = .ok (.iconst 1, 1) := by decide +kernel
theorem dL_law_1025 : decode cL_law 1025 = .ok (.iadd, 1) := by decide +kernel
theorem dL_law_1026 : decode cL_law 1026 = .ok (.iaload, 1) := by decide +kernel
theorem dL_law_1027 : decode cL_law 1027 = .ok (.aload_n 0, 1) := by decide +kernel
theorem dL_law_1028 : decode cL_law 1028 = .ok (.iload_n 3, 1) := by decide +kernel
theorem dL_law_1029 : decode cL_law 1029 = .ok (.iconst 2, 1) := by decide +kernel
theorem dL_law_1030 : decode cL_law 1030 = .ok (.iadd, 1) := by decide +kernel
theorem dL_law_1031 : decode cL_law 1031 = .ok (.iaload, 1) := by decide +kernel
theorem dL_law_1032 : decode cL_law 1032 = .ok (.invokevirtual 139, 3) := by decide +kernel
theorem dL_law_1035 : decode cL_law 1035 = .ok (.aload_n 2, 1) := by decide +kernel
theorem dL_law_1036 : decode cL_law 1036 = .ok (.aload_n 0, 1) := by decide +kernel
theorem dL_law_1037 : decode cL_law 1037 = .ok (.iload_n 3, 1) := by decide +kernel
theorem dL_law_1038 : decode cL_law 1038 = .ok (.iconst 1, 1) := by decide +kernel
theorem dL_law_1039 : decode cL_law 1039 = .ok (.iadd, 1) := by decide +kernel
theorem dL_law_1040 : decode cL_law 1040 = .ok (.iaload, 1) := by decide +kernel
theorem dL_law_1041 : decode cL_law 1041 = .ok (.aload_n 0, 1) := by decide +kernel
theorem dL_law_1042 : decode cL_law 1042 = .ok (.iload_n 3, 1) := by decide +kernel
theorem dL_law_1043 : decode cL_law 1043 = .ok (.iconst 2, 1) := by decide +kernel
theorem dL_law_1044 : decode cL_law 1044 = .ok (.iadd, 1) := by decide +kernel
theorem dL_law_1045 : decode cL_law 1045 = .ok (.iaload, 1) := by decide +kernel
theorem dL_law_1046 : decode cL_law 1046 = .ok (.invokevirtual 142, 3) := by decide +kernel
theorem dL_law_1049 : decode cL_law 1049 = .ok (.if_icmp .eq 77, 3) := by decide +kernel
theorem dL_law_1052 : decode cL_law 1052 = .ok (.iconst 0, 1) := by decide +kernel
theorem dL_law_1053 : decode cL_law 1053 = .ok (.ireturn, 1) := by decide +kernel
theorem dL_law_1054 : decode cL_law 1054 = .ok (.aload_n 1, 1) := by decide +kernel
theorem dL_law_1055 : decode cL_law 1055 = .ok (.invokevirtual 143, 3) := by decide +kernel
theorem dL_law_1058 : decode cL_law 1058 = .ok (.aload_n 2, 1) := by decide +kernel
theorem dL_law_1059 : decode cL_law 1059 = .ok (.invokevirtual 146, 3) := by decide +kernel
theorem dL_law_1062 : decode cL_law 1062 = .ok (.if_icmp .eq 64, 3) := by decide +kernel
theorem dL_law_1065 : decode cL_law 1065 = .ok (.iconst 0, 1) := by decide +kernel
theorem dL_law_1066 : decode cL_law 1066 = .ok (.ireturn, 1) := by decide +kernel
theorem dL_law_1067 : decode cL_law 1067 = .ok (.aload_n 1, 1) := by decide +kernel
theorem dL_law_1068 : decode cL_law 1068 = .ok (.aload_n 0, 1) := by decide +kernel
theorem dL_law_1069 : decode cL_law 1069 = .ok (.iload_n 3, 1) := by decide +kernel
theorem dL_law_1070 : decode cL_law 1070 = .ok (.iconst 1, 1) := by decide +kernel
theorem dL_law_1071 : decode cL_law 1071 = .ok (.iadd, 1) := by decide +kernel
theorem dL_law_1072 : decode cL_law 1072 = .ok (.iaload, 1) := by decide +kernel
theorem dL_law_1073 : decode cL_law 1073 = .ok (.invokevirtual 147, 3) := by decide +kernel
theorem dL_law_1076 : decode cL_law 1076 = .ok (.aload_n 2, 1) := by decide +kernel
theorem dL_law_1077 : decode cL_law 1077 = .ok (.aload_n 0, 1) := by decide +kernel
theorem dL_law_1078 : decode cL_law 1078 = .ok (.iload_n 3, 1) := by decide +kernel
theorem dL_law_1079 : decode cL_law 1079 = .ok (.iconst 1, 1) := by decide +kernel
theorem dL_law_1080 : decode cL_law 1080 = .ok (.iadd, 1) := by decide +kernel
theorem dL_law_1081 : decode cL_law 1081 = .ok (.iaload, 1) := by decide +kernel
theorem dL_law_1082 : decode cL_law 1082 = .ok (.invokevirtual 150, 3) := by decide +kernel
theorem dL_law_1085 : decode cL_law 1085 = .ok (.if_icmp .eq 41, 3) := by decide +kernel
theorem dL_law_1088 : decode cL_law 1088 = .ok (.iconst 0, 1) := by decide +kernel
theorem dL_law_1089 : decode cL_law 1089 = .ok (.ireturn, 1) := by decide +kernel
theorem dL_law_1090 : decode cL_law 1090 = .ok (.aload_n 1, 1) := by decide +kernel
theorem dL_law_1091 : decode cL_law 1091 = .ok (.invokevirtual 151, 3) := by decide +kernel
theorem dL_law_1094 : decode cL_law 1094 = .ok (.aload_n 2, 1) := by decide +kernel
theorem dL_law_1095 : decode cL_law 1095 = .ok (.invokevirtual 154, 3) := by decide +kernel
theorem dL_law_1098 : decode cL_law 1098 = .ok (.if_icmp .eq 28, 3) := by decide +kernel
theorem dL_law_1101 : decode cL_law 1101 = .ok (.iconst 0, 1) := by decide +kernel
theorem dL_law_1102 : decode cL_law 1102 = .ok (.ireturn, 1) := by decide +kernel
theorem dL_law_1103 : decode cL_law 1103 = .ok (.aload_n 1, 1) := by decide +kernel
theorem dL_law_1104 : decode cL_law 1104 = .ok (.aload_n 0, 1) := by decide +kernel
theorem dL_law_1105 : decode cL_law 1105 = .ok (.iload_n 3, 1) := by decide +kernel
theorem dL_law_1106 : decode cL_law 1106 = .ok (.iconst 1, 1) := by decide +kernel
theorem dL_law_1107 : decode cL_law 1107 = .ok (.iadd, 1) := by decide +kernel
theorem dL_law_1108 : decode cL_law 1108 = .ok (.iaload, 1) := by decide +kernel
theorem dL_law_1109 : decode cL_law 1109 = .ok (.invokevirtual 155, 3) := by decide +kernel
theorem dL_law_1112 : decode cL_law 1112 = .ok (.aload_n 2, 1) := by decide +kernel
theorem dL_law_1113 : decode cL_law 1113 = .ok (.aload_n 0, 1) := by decide +kernel
theorem dL_law_1114 : decode cL_law 1114 = .ok (.iload_n 3, 1) := by decide +kernel
theorem dL_law_1115 : decode cL_law 1115 = .ok (.iconst 1, 1) := by decide +kernel
theorem dL_law_1116 : decode cL_law 1116 = .ok (.iadd, 1) := by decide +kernel
theorem dL_law_1117 : decode cL_law 1117 = .ok (.iaload, 1) := by decide +kernel
theorem dL_law_1118 : decode cL_law 1118 = .ok (.invokevirtual 158, 3) := by decide +kernel
theorem dL_law_1121 : decode cL_law 1121 = .ok (.if_icmp .eq 5, 3) := by decide +kernel
theorem dL_law_1124 : decode cL_law 1124 = .ok (.iconst 0, 1) := by decide +kernel
theorem dL_law_1125 : decode cL_law 1125 = .ok (.ireturn, 1) := by decide +kernel
theorem dL_law_1126 : decode cL_law 1126 = .ok (.iinc 3 6, 3) := by decide +kernel
theorem dL_law_1129 : decode cL_law 1129 = .ok (.goto (-1111), 3) := by decide +kernel
theorem dL_law_1132 : decode cL_law 1132 = .ok (.iconst 1, 1) := by decide +kernel
theorem dL_law_1133 : decode cL_law 1133 = .ok (.ireturn, 1) := by decide +kernel
