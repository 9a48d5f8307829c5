theorem dX0_init_0 : decode cX0_init 0 = .ok (.aload_n 0, 1) := by decide +kernel
theorem dX0_init_1 : decode cX0_init 1 = .ok (.invokespecial 3, 3) := by decide +kernel
theorem dX0_init_4 : decode cX0_init 4 = .ok (.aload_n 0, 1) := by decide +kernel
theorem dX0_init_5 : decode cX0_init 5 = .ok (.new 9, 3) := by decide +kernel
theorem dX0_init_8 : decode cX0_init 8 = .ok (.dup, 1) := by decide +kernel
theorem dX0_init_9 : decode cX0_init 9 = .ok (.bipush 12, 2) := by decide +kernel
theorem dX0_init_11 : decode cX0_init 11 = .ok (.invokespecial 11, 3) := by decide +kernel
theorem dX0_init_14 : decode cX0_init 14 = .ok (.putfield 14, 3) := by decide +kernel
theorem dX0_init_17 : decode cX0_init 17 = .ok (.aload_n 0, 1) := by decide +kernel
theorem dX0_init_18 : decode cX0_init 18 = .ok (.new 9, 3) := by decide +kernel
theorem dX0_init_21 : decode cX0_init 21 = .ok (.dup, 1) := by decide +kernel
theorem dX0_init_22 : decode cX0_init 22 = .ok (.bipush 12, 2) := by decide +kernel
theorem dX0_init_24 : decode cX0_init 24 = .ok (.invokespecial 11, 3) := by decide +kernel
theorem dX0_init_27 : decode cX0_init 27 = .ok (.putfield 20, 3) := by decide +kernel
theorem dX0_init_30 : decode cX0_init 30 = .ok (.aload_n 0, 1) := by decide +kernel
theorem dX0_init_31 : decode cX0_init 31 = .ok (.new 9, 3) := by decide +kernel
theorem dX0_init_34 : decode cX0_init 34 = .ok (.dup, 1) := by decide +kernel
theorem dX0_init_35 : decode cX0_init 35 = .ok (.bipush 20, 2) := by decide +kernel
theorem dX0_init_37 : decode cX0_init 37 = .ok (.invokespecial 11, 3) := by decide +kernel
theorem dX0_init_40 : decode cX0_init 40 = .ok (.putfield 23, 3) := by decide +kernel
theorem dX0_init_43 : decode cX0_init 43 = .ok (.aload_n 0, 1) := by decide +kernel
theorem dX0_init_44 : decode cX0_init 44 = .ok (.new 9, 3) := by decide +kernel
theorem dX0_init_47 : decode cX0_init 47 = .ok (.dup, 1) := by decide +kernel
theorem dX0_init_48 : decode cX0_init 48 = .ok (.bipush 20, 2) := by decide +kernel
theorem dX0_init_50 : decode cX0_init 50 = .ok (.invokespecial 11, 3) := by decide +kernel
theorem dX0_init_53 : decode cX0_init 53 = .ok (.putfield 26, 3) := by decide +kernel
theorem dX0_init_56 : decode cX0_init 56 = .ok (.aload_n 0, 1) := by decide +kernel
theorem dX0_init_57 : decode cX0_init 57 = .ok (.new 9, 3) := by decide +kernel
theorem dX0_init_60 : decode cX0_init 60 = .ok (.dup, 1) := by decide +kernel
theorem dX0_init_61 : decode cX0_init 61 = .ok (.bipush 120, 2) := by decide +kernel
theorem dX0_init_63 : decode cX0_init 63 = .ok (.invokespecial 11, 3) := by decide +kernel
theorem dX0_init_66 : decode cX0_init 66 = .ok (.putfield 29, 3) := by decide +kernel
theorem dX0_init_69 : decode cX0_init 69 = .ok (.aload_n 0, 1) := by decide +kernel
theorem dX0_init_70 : decode cX0_init 70 = .ok (.new 9, 3) := by decide +kernel
theorem dX0_init_73 : decode cX0_init 73 = .ok (.dup, 1) := by decide +kernel
theorem dX0_init_74 : decode cX0_init 74 = .ok (.bipush 120, 2) := by decide +kernel
theorem dX0_init_76 : decode cX0_init 76 = .ok (.invokespecial 11, 3) := by decide +kernel
theorem dX0_init_79 : decode cX0_init 79 = .ok (.putfield 32, 3) := by decide +kernel
theorem dX0_init_82 : decode cX0_init 82 = .ok (.aload_n 0, 1) := by decide +kernel
theorem dX0_init_83 : decode cX0_init 83 = .ok (.new 9, 3) := by decide +kernel
theorem dX0_init_86 : decode cX0_init 86 = .ok (.dup, 1) := by decide +kernel
theorem dX0_init_87 : decode cX0_init 87 = .ok (.bipush 120, 2) := by decide +kernel
theorem dX0_init_89 : decode cX0_init 89 = .ok (.invokespecial 11, 3) := by decide +kernel
theorem dX0_init_92 : decode cX0_init 92 = .ok (.putfield 35, 3) := by decide +kernel
theorem dX0_init_95 : decode cX0_init 95 = .ok (.aload_n 0, 1) := by decide +kernel
theorem dX0_init_96 : decode cX0_init 96 = .ok (.iconst 5, 1) := by decide +kernel
theorem dX0_init_97 : decode cX0_init 97 = .ok (.putfield 38, 3) := by decide +kernel
theorem dX0_init_100 : decode cX0_init 100 = .ok (.aload_n 0, 1) := by decide +kernel
theorem dX0_init_101 : decode cX0_init 101 = .ok (.new 9, 3) := by decide +kernel
theorem dX0_init_104 : decode cX0_init 104 = .ok (.dup, 1) := by decide +kernel
theorem dX0_init_105 : decode cX0_init 105 = .ok (.bipush 9, 2) := by decide +kernel
theorem dX0_init_107 : decode cX0_init 107 = .ok (.invokespecial 11, 3) := by decide +kernel
theorem dX0_init_110 : decode cX0_init 110 = .ok (.putfield 42, 3) := by decide +kernel
theorem dX0_init_113 : decode cX0_init 113 = .ok (.aload_n 0, 1) := by decide +kernel
theorem dX0_init_114 : decode cX0_init 114 = .ok (.getfield 42, 3) := by decide +kernel
theorem dX0_init_117 : decode cX0_init 117 = .ok (.iconst 0, 1) := by decide +kernel
theorem dX0_init_118 : decode cX0_init 118 = .ok (.iconst 0, 1) := by decide +kernel
theorem dX0_init_119 : decode cX0_init 119 = .ok (.invokevirtual 45, 3) := by decide +kernel
theorem dX0_init_122 : decode cX0_init 122 = .ok (.aload_n 0, 1) := by decide +kernel
theorem dX0_init_123 : decode cX0_init 123 = .ok (.getfield 42, 3) := by decide +kernel
theorem dX0_init_126 : decode cX0_init 126 = .ok (.iconst 1, 1) := by decide +kernel
theorem dX0_init_127 : decode cX0_init 127 = .ok (.iconst 1, 1) := by decide +kernel
theorem dX0_init_128 : decode cX0_init 128 = .ok (.invokevirtual 45, 3) := by decide +kernel
theorem dX0_init_131 : decode cX0_init 131 = .ok (.aload_n 0, 1) := by decide +kernel
theorem dX0_init_132 : decode cX0_init 132 = .ok (.getfield 42, 3) := by decide +kernel
theorem dX0_init_135 : decode cX0_init 135 = .ok (.iconst 2, 1) := by decide +kernel
theorem dX0_init_136 : decode cX0_init 136 = .ok (.iconst 3, 1) := by decide +kernel
theorem dX0_init_137 : decode cX0_init 137 = .ok (.invokevirtual 45, 3) := by decide +kernel
theorem dX0_init_140 : decode cX0_init 140 = .ok (.aload_n 0, 1) := by decide +kernel
theorem dX0_init_141 : decode cX0_init 141 = .ok (.getfield 42, 3) := by decide +kernel
theorem dX0_init_144 : decode cX0_init 144 = .ok (.iconst 3, 1) := by decide +kernel
theorem dX0_init_145 : decode cX0_init 145 = .ok (.iconst 4, 1) := by decide +kernel
theorem dX0_init_146 : decode cX0_init 146 = .ok (.invokevirtual 45, 3) := by decide +kernel
theorem dX0_init_149 : decode cX0_init 149 = .ok (.aload_n 0, 1) := by decide +kernel
theorem dX0_init_150 : decode cX0_init 150 = .ok (.getfield 42, 3) := by decide +kernel
theorem dX0_init_153 : decode cX0_init 153 = .ok (.iconst 4, 1) := by decide +kernel
theorem dX0_init_154 : decode cX0_init 154 = .ok (.bipush 8, 2) := by decide +kernel
theorem dX0_init_156 : decode cX0_init 156 = .ok (.invokevirtual 45, 3) := by decide +kernel
theorem dX0_init_159 : decode cX0_init 159 = .ok (.return_, 1) := by decide +kernel
theorem dX0_copy_0 : decode cX0_copy 0 = .ok (.aload_n 0, 1) := by decide +kernel
theorem dX0_copy_1 : decode cX0_copy 1 = .ok (.aload_n 1, 1) := by decide +kernel
theorem dX0_copy_2 : decode cX0_copy 2 = .ok (.getfield 49, 3) := by decide +kernel
theorem dX0_copy_5 : decode cX0_copy 5 = .ok (.putfield 49, 3) := by decide +kernel
theorem dX0_copy_8 : decode cX0_copy 8 = .ok (.aload_n 0, 1) := by decide +kernel
theorem dX0_copy_9 : decode cX0_copy 9 = .ok (.getfield 14, 3) := by decide +kernel
theorem dX0_copy_12 : decode cX0_copy 12 = .ok (.aload_n 1, 1) := by decide +kernel
theorem dX0_copy_13 : decode cX0_copy 13 = .ok (.getfield 14, 3) := by decide +kernel
theorem dX0_copy_16 : decode cX0_copy 16 = .ok (.invokevirtual 52, 3) := by decide +kernel
theorem dX0_copy_19 : decode cX0_copy 19 = .ok (.aload_n 0, 1) := by decide +kernel
theorem dX0_copy_20 : decode cX0_copy 20 = .ok (.getfield 20, 3) := by decide +kernel
theorem dX0_copy_23 : decode cX0_copy 23 = .ok (.aload_n 1, 1) := by decide +kernel
theorem dX0_copy_24 : decode cX0_copy 24 = .ok (.getfield 20, 3) := by decide +kernel
theorem dX0_copy_27 : decode cX0_copy 27 = .ok (.invokevirtual 52, 3) := by decide +kernel
theorem dX0_copy_30 : decode cX0_copy 30 = .ok (.aload_n 0, 1) := by decide +kernel
theorem dX0_copy_31 : decode cX0_copy 31 = .ok (.aload_n 1, 1) := by decide +kernel
theorem dX0_copy_32 : decode cX0_copy 32 = .ok (.getfield 56, 3) := by decide +kernel
theorem dX0_copy_35 : decode cX0_copy 35 = .ok (.putfield 56, 3) := by decide +kernel
theorem dX0_copy_38 : decode cX0_copy 38 = .ok (.aload_n 0, 1) := by decide +kernel
theorem dX0_copy_39 : decode cX0_copy 39 = .ok (.aload_n 1, 1) := by decide +kernel
theorem dX0_copy_40 : decode cX0_copy 40 = .ok (.getfield 59, 3) := by decide +kernel
theorem dX0_copy_43 : decode cX0_copy 43 = .ok (.putfield 59, 3) := by decide +kernel
theorem dX0_copy_46 : decode cX0_copy 46 = .ok (.aload_n 0, 1) := by decide +kernel
theorem dX0_copy_47 : decode cX0_copy 47 = .ok (.getfield 23, 3) := by decide +kernel
theorem dX0_copy_50 : decode cX0_copy 50 = .ok (.aload_n 1, 1) := by decide +kernel
theorem dX0_copy_51 : decode cX0_copy 51 = .ok (.getfield 23, 3) := by decide +kernel
theorem dX0_copy_54 : decode cX0_copy 54 = .ok (.invokevirtual 52, 3) := by decide +kernel
theorem dX0_copy_57 : decode cX0_copy 57 = .ok (.aload_n 0, 1) := by decide +kernel
theorem dX0_copy_58 : decode cX0_copy 58 = .ok (.getfield 26, 3) := by decide +kernel
theorem dX0_copy_61 : decode cX0_copy 61 = .ok (.aload_n 1, 1) := by decide +kernel
theorem dX0_copy_62 : decode cX0_copy 62 = .ok (.getfield 26, 3) := by decide +kernel
theorem dX0_copy_65 : decode cX0_copy 65 = .ok (.invokevirtual 52, 3) := by decide +kernel
theorem dX0_copy_68 : decode cX0_copy 68 = .ok (.aload_n 0, 1) := by decide +kernel
theorem dX0_copy_69 : decode cX0_copy 69 = .ok (.getfield 29, 3) := by decide +kernel
theorem dX0_copy_72 : decode cX0_copy 72 = .ok (.aload_n 1, 1) := by decide +kernel
theorem dX0_copy_73 : decode cX0_copy 73 = .ok (.getfield 29, 3) := by decide +kernel
theorem dX0_copy_76 : decode cX0_copy 76 = .ok (.invokevirtual 52, 3) := by decide +kernel
theorem dX0_copy_79 : decode cX0_copy 79 = .ok (.aload_n 0, 1) := by decide +kernel
theorem dX0_copy_80 : decode cX0_copy 80 = .ok (.getfield 32, 3) := by decide +kernel
theorem dX0_copy_83 : decode cX0_copy 83 = .ok (.aload_n 1, 1) := by decide +kernel
theorem dX0_copy_84 : decode cX0_copy 84 = .ok (.getfield 32, 3) := by decide +kernel
theorem dX0_copy_87 : decode cX0_copy 87 = .ok (.invokevirtual 52, 3) := by decide +kernel
theorem dX0_copy_90 : decode cX0_copy 90 = .ok (.aload_n 0, 1) := by decide +kernel
theorem dX0_copy_91 : decode cX0_copy 91 = .ok (.getfield 35, 3) := by decide +kernel
theorem dX0_copy_94 : decode cX0_copy 94 = .ok (.aload_n 1, 1) := by decide +kernel
theorem dX0_copy_95 : decode cX0_copy 95 = .ok (.getfield 35, 3) := by decide +kernel
theorem dX0_copy_98 : decode cX0_copy 98 = .ok (.invokevirtual 52, 3) := by decide +kernel
theorem dX0_copy_101 : decode cX0_copy 101 = .ok (.aload_n 0, 1) := by decide +kernel
theorem dX0_copy_102 : decode cX0_copy 102 = .ok (.aload_n 1, 1) := by decide +kernel
theorem dX0_copy_103 : decode cX0_copy 103 = .ok (.getfield 38, 3) := by decide +kernel
theorem dX0_copy_106 : decode cX0_copy 106 = .ok (.putfield 38, 3) := by decide +kernel
theorem dX0_copy_109 : decode cX0_copy 109 = .ok (.aload_n 0, 1) := by decide +kernel
theorem dX0_copy_110 : decode cX0_copy 110 = .ok (.getfield 42, 3) := by decide +kernel
theorem dX0_copy_113 : decode cX0_copy 113 = .ok (.aload_n 1, 1) := by decide +kernel
theorem dX0_copy_114 : decode cX0_copy 114 = .ok (.getfield 42, 3) := by decide +kernel
theorem dX0_copy_117 : decode cX0_copy 117 = .ok (.invokevirtual 52, 3) := by decide +kernel
theorem dX0_copy_120 : decode cX0_copy 120 = .ok (.return_, 1) := by decide +kernel
theorem dX0_enter_0 : decode cX0_enter 0 = .ok (.aload_n 0, 1) := by decide +kernel
theorem dX0_enter_1 : decode cX0_enter 1 = .ok (.getfield 49, 3) := by decide +kernel
theorem dX0_enter_4 : decode cX0_enter 4 = .ok (.istore_n 2, 1) := by decide +kernel
theorem dX0_enter_5 : decode cX0_enter 5 = .ok (.aload_n 0, 1) := by decide +kernel
theorem dX0_enter_6 : decode cX0_enter 6 = .ok (.getfield 14, 3) := by decide +kernel
theorem dX0_enter_9 : decode cX0_enter 9 = .ok (.iload_n 2, 1) := by decide +kernel
theorem dX0_enter_10 : decode cX0_enter 10 = .ok (.iload_n 1, 1) := by decide +kernel
theorem dX0_enter_11 : decode cX0_enter 11 = .ok (.invokevirtual 45, 3) := by decide +kernel
theorem dX0_enter_14 : decode cX0_enter 14 = .ok (.aload_n 0, 1) := by decide +kernel
theorem dX0_enter_15 : decode cX0_enter 15 = .ok (.getfield 20, 3) := by decide +kernel
theorem dX0_enter_18 : decode cX0_enter 18 = .ok (.iload_n 2, 1) := by decide +kernel
theorem dX0_enter_19 : decode cX0_enter 19 = .ok (.iconst 1, 1) := by decide +kernel
theorem dX0_enter_20 : decode cX0_enter 20 = .ok (.invokevirtual 45, 3) := by decide +kernel
theorem dX0_enter_23 : decode cX0_enter 23 = .ok (.aload_n 0, 1) := by decide +kernel
theorem dX0_enter_24 : decode cX0_enter 24 = .ok (.dup, 1) := by decide +kernel
theorem dX0_enter_25 : decode cX0_enter 25 = .ok (.getfield 49, 3) := by decide +kernel
theorem dX0_enter_28 : decode cX0_enter 28 = .ok (.iconst 1, 1) := by decide +kernel
theorem dX0_enter_29 : decode cX0_enter 29 = .ok (.iadd, 1) := by decide +kernel
theorem dX0_enter_30 : decode cX0_enter 30 = .ok (.putfield 49, 3) := by decide +kernel
theorem dX0_enter_33 : decode cX0_enter 33 = .ok (.iload_n 2, 1) := by decide +kernel
theorem dX0_enter_34 : decode cX0_enter 34 = .ok (.ireturn, 1) := by decide +kernel
theorem dX0_countInside_0 : decode cX0_countInside 0 = .ok (.iconst 0, 1) := by decide +kernel
theorem dX0_countInside_1 : decode cX0_countInside 1 = .ok (.istore_n 1, 1) := by decide +kernel
theorem dX0_countInside_2 : decode cX0_countInside 2 = .ok (.iconst 0, 1) := by decide +kernel
theorem dX0_countInside_3 : decode cX0_countInside 3 = .ok (.istore_n 2, 1) := by decide +kernel
theorem dX0_countInside_4 : decode cX0_countInside 4 = .ok (.iload_n 2, 1) := by decide +kernel
theorem dX0_countInside_5 : decode cX0_countInside 5 = .ok (.aload_n 0, 1) := by decide +kernel
theorem dX0_countInside_6 : decode cX0_countInside 6 = .ok (.getfield 49, 3) := by decide +kernel
theorem dX0_countInside_9 : decode cX0_countInside 9 = .ok (.if_icmp .ge 20, 3) := by decide +kernel
theorem dX0_countInside_12 : decode cX0_countInside 12 = .ok (.iload_n 1, 1) := by decide +kernel
theorem dX0_countInside_13 : decode cX0_countInside 13 = .ok (.aload_n 0, 1) := by decide +kernel
theorem dX0_countInside_14 : decode cX0_countInside 14 = .ok (.getfield 20, 3) := by decide +kernel
theorem dX0_countInside_17 : decode cX0_countInside 17 = .ok (.iload_n 2, 1) := by decide +kernel
theorem dX0_countInside_18 : decode cX0_countInside 18 = .ok (.invokevirtual 63, 3) := by decide +kernel
theorem dX0_countInside_21 : decode cX0_countInside 21 = .ok (.iadd, 1) := by decide +kernel
theorem dX0_countInside_22 : decode cX0_countInside 22 = .ok (.istore_n 1, 1) := by decide +kernel
theorem dX0_countInside_23 : decode cX0_countInside 23 = .ok (.iinc 2 1, 3) := by decide +kernel
theorem dX0_countInside_26 : decode cX0_countInside 26 = .ok (.goto (-22), 3) := by decide +kernel
theorem dX0_countInside_29 : decode cX0_countInside 29 = .ok (.iload_n 1, 1) := by decide +kernel
theorem dX0_countInside_30 : decode cX0_countInside 30 = .ok (.ireturn, 1) := by decide +kernel
theorem dX0_countDone_0 : decode cX0_countDone 0 = .ok (.aload_n 0, 1) := by decide +kernel
theorem dX0_countDone_1 : decode cX0_countDone 1 = .ok (.getfield 59, 3) := by decide +kernel
theorem dX0_countDone_4 : decode cX0_countDone 4 = .ok (.ifCond .eq 12, 3) := by decide +kernel
theorem dX0_countDone_7 : decode cX0_countDone 7 = .ok (.aload_n 0, 1) := by decide +kernel
theorem dX0_countDone_8 : decode cX0_countDone 8 = .ok (.getfield 56, 3) := by decide +kernel
theorem dX0_countDone_11 : decode cX0_countDone 11 = .ok (.iconst 1, 1) := by decide +kernel
theorem dX0_countDone_12 : decode cX0_countDone 12 = .ok (.isub, 1) := by decide +kernel
theorem dX0_countDone_13 : decode cX0_countDone 13 = .ok (.goto 7, 3) := by decide +kernel
theorem dX0_countDone_16 : decode cX0_countDone 16 = .ok (.aload_n 0, 1) := by decide +kernel
theorem dX0_countDone_17 : decode cX0_countDone 17 = .ok (.getfield 56, 3) := by decide +kernel
theorem dX0_countDone_20 : decode cX0_countDone 20 = .ok (.ireturn, 1) := by decide +kernel
theorem dX0_boardCell_0 : decode cX0_boardCell 0 = .ok (.iload_n 0, 1) := by decide +kernel
theorem dX0_boardCell_1 : decode cX0_boardCell 1 = .ok (.bipush 6, 2) := by decide +kernel
theorem dX0_boardCell_3 : decode cX0_boardCell 3 = .ok (.imul, 1) := by decide +kernel
theorem dX0_boardCell_4 : decode cX0_boardCell 4 = .ok (.iload_n 1, 1) := by decide +kernel
theorem dX0_boardCell_5 : decode cX0_boardCell 5 = .ok (.iadd, 1) := by decide +kernel
theorem dX0_boardCell_6 : decode cX0_boardCell 6 = .ok (.ireturn, 1) := by decide +kernel
theorem dX0_countOutcomes_0 : decode cX0_countOutcomes 0 = .ok (.iconst 0, 1) := by decide +kernel
theorem dX0_countOutcomes_1 : decode cX0_countOutcomes 1 = .ok (.istore_n 2, 1) := by decide +kernel
theorem dX0_countOutcomes_2 : decode cX0_countOutcomes 2 = .ok (.iconst 0, 1) := by decide +kernel
theorem dX0_countOutcomes_3 : decode cX0_countOutcomes 3 = .ok (.istore_n 3, 1) := by decide +kernel
theorem dX0_countOutcomes_4 : decode cX0_countOutcomes 4 = .ok (.iload_n 3, 1) := by decide +kernel
theorem dX0_countOutcomes_5 : decode cX0_countOutcomes 5 = .ok (.aload_n 0, 1) := by decide +kernel
theorem dX0_countOutcomes_6 : decode cX0_countOutcomes 6 = .ok (.getfield 23, 3) := by decide +kernel
theorem dX0_countOutcomes_9 : decode cX0_countOutcomes 9 = .ok (.iload_n 1, 1) := by decide +kernel
theorem dX0_countOutcomes_10 : decode cX0_countOutcomes 10 = .ok (.invokevirtual 63, 3) := by decide +kernel
theorem dX0_countOutcomes_13 : decode cX0_countOutcomes 13 = .ok (.if_icmp .ge 27, 3) := by decide +kernel
theorem dX0_countOutcomes_16 : decode cX0_countOutcomes 16 = .ok (.aload_n 0, 1) := by decide +kernel
theorem dX0_countOutcomes_17 : decode cX0_countOutcomes 17 = .ok (.getfield 35, 3) := by decide +kernel
theorem dX0_countOutcomes_20 : decode cX0_countOutcomes 20 = .ok (.iload_n 1, 1) := by decide +kernel
theorem dX0_countOutcomes_21 : decode cX0_countOutcomes 21 = .ok (.iload_n 3, 1) := by decide +kernel
theorem dX0_countOutcomes_22 : decode cX0_countOutcomes 22 = .ok (.invokestatic 67, 3) := by decide +kernel
theorem dX0_countOutcomes_25 : decode cX0_countOutcomes 25 = .ok (.invokevirtual 63, 3) := by decide +kernel
theorem dX0_countOutcomes_28 : decode cX0_countOutcomes 28 = .ok (.ifCond .eq 6, 3) := by decide +kernel
theorem dX0_countOutcomes_31 : decode cX0_countOutcomes 31 = .ok (.iinc 2 1, 3) := by decide +kernel
theorem dX0_countOutcomes_34 : decode cX0_countOutcomes 34 = .ok (.iinc 3 1, 3) := by decide +kernel
theorem dX0_countOutcomes_37 : decode cX0_countOutcomes 37 = .ok (.goto (-33), 3) := by decide +kernel
theorem dX0_countOutcomes_40 : decode cX0_countOutcomes 40 = .ok (.iload_n 2, 1) := by decide +kernel
theorem dX0_countOutcomes_41 : decode cX0_countOutcomes 41 = .ok (.ireturn, 1) := by decide +kernel
theorem dX0_startRound_0 : decode cX0_startRound 0 = .ok (.aload_n 0, 1) := by decide +kernel
theorem dX0_startRound_1 : decode cX0_startRound 1 = .ok (.getfield 23, 3) := by decide +kernel
theorem dX0_startRound_4 : decode cX0_startRound 4 = .ok (.aload_n 0, 1) := by decide +kernel
theorem dX0_startRound_5 : decode cX0_startRound 5 = .ok (.getfield 56, 3) := by decide +kernel
theorem dX0_startRound_8 : decode cX0_startRound 8 = .ok (.iconst 0, 1) := by decide +kernel
theorem dX0_startRound_9 : decode cX0_startRound 9 = .ok (.invokevirtual 45, 3) := by decide +kernel
theorem dX0_startRound_12 : decode cX0_startRound 12 = .ok (.aload_n 0, 1) := by decide +kernel
theorem dX0_startRound_13 : decode cX0_startRound 13 = .ok (.getfield 26, 3) := by decide +kernel
theorem dX0_startRound_16 : decode cX0_startRound 16 = .ok (.aload_n 0, 1) := by decide +kernel
theorem dX0_startRound_17 : decode cX0_startRound 17 = .ok (.getfield 56, 3) := by decide +kernel
theorem dX0_startRound_20 : decode cX0_startRound 20 = .ok (.iload_n 1, 1) := by decide +kernel
theorem dX0_startRound_21 : decode cX0_startRound 21 = .ok (.invokevirtual 45, 3) := by decide +kernel
theorem dX0_startRound_24 : decode cX0_startRound 24 = .ok (.aload_n 0, 1) := by decide +kernel
theorem dX0_startRound_25 : decode cX0_startRound 25 = .ok (.dup, 1) := by decide +kernel
theorem dX0_startRound_26 : decode cX0_startRound 26 = .ok (.getfield 56, 3) := by decide +kernel
theorem dX0_startRound_29 : decode cX0_startRound 29 = .ok (.iconst 1, 1) := by decide +kernel
theorem dX0_startRound_30 : decode cX0_startRound 30 = .ok (.iadd, 1) := by decide +kernel
theorem dX0_startRound_31 : decode cX0_startRound 31 = .ok (.putfield 56, 3) := by decide +kernel
theorem dX0_startRound_34 : decode cX0_startRound 34 = .ok (.aload_n 0, 1) := by decide +kernel
theorem dX0_startRound_35 : decode cX0_startRound 35 = .ok (.iconst 1, 1) := by decide +kernel
theorem dX0_startRound_36 : decode cX0_startRound 36 = .ok (.putfield 59, 3) := by decide +kernel
theorem dX0_startRound_39 : decode cX0_startRound 39 = .ok (.return_, 1) := by decide +kernel
theorem dX0_addBoard_0 : decode cX0_addBoard 0 = .ok (.aload_n 0, 1) := by decide +kernel
theorem dX0_addBoard_1 : decode cX0_addBoard 1 = .ok (.getfield 56, 3) := by decide +kernel
theorem dX0_addBoard_4 : decode cX0_addBoard 4 = .ok (.iconst 1, 1) := by decide +kernel
theorem dX0_addBoard_5 : decode cX0_addBoard 5 = .ok (.isub, 1) := by decide +kernel
theorem dX0_addBoard_6 : decode cX0_addBoard 6 = .ok (.istore_n 3, 1) := by decide +kernel
theorem dX0_addBoard_7 : decode cX0_addBoard 7 = .ok (.iload_n 3, 1) := by decide +kernel
theorem dX0_addBoard_8 : decode cX0_addBoard 8 = .ok (.aload_n 0, 1) := by decide +kernel
theorem dX0_addBoard_9 : decode cX0_addBoard 9 = .ok (.getfield 23, 3) := by decide +kernel
theorem dX0_addBoard_12 : decode cX0_addBoard 12 = .ok (.iload_n 3, 1) := by decide +kernel
theorem dX0_addBoard_13 : decode cX0_addBoard 13 = .ok (.invokevirtual 63, 3) := by decide +kernel
theorem dX0_addBoard_16 : decode cX0_addBoard 16 = .ok (.invokestatic 67, 3) := by decide +kernel
theorem dX0_addBoard_19 : decode cX0_addBoard 19 = .ok (.istore 4, 2) := by decide +kernel
theorem dX0_addBoard_21 : decode cX0_addBoard 21 = .ok (.aload_n 0, 1) := by decide +kernel
theorem dX0_addBoard_22 : decode cX0_addBoard 22 = .ok (.getfield 29, 3) := by decide +kernel
theorem dX0_addBoard_25 : decode cX0_addBoard 25 = .ok (.iload 4, 2) := by decide +kernel
theorem dX0_addBoard_27 : decode cX0_addBoard 27 = .ok (.iload_n 1, 1) := by decide +kernel
theorem dX0_addBoard_28 : decode cX0_addBoard 28 = .ok (.invokevirtual 45, 3) := by decide +kernel
theorem dX0_addBoard_31 : decode cX0_addBoard 31 = .ok (.aload_n 0, 1) := by decide +kernel
theorem dX0_addBoard_32 : decode cX0_addBoard 32 = .ok (.getfield 32, 3) := by decide +kernel
theorem dX0_addBoard_35 : decode cX0_addBoard 35 = .ok (.iload 4, 2) := by decide +kernel
theorem dX0_addBoard_37 : decode cX0_addBoard 37 = .ok (.iload_n 2, 1) := by decide +kernel
theorem dX0_addBoard_38 : decode cX0_addBoard 38 = .ok (.invokevirtual 45, 3) := by decide +kernel
theorem dX0_addBoard_41 : decode cX0_addBoard 41 = .ok (.aload_n 0, 1) := by decide +kernel
theorem dX0_addBoard_42 : decode cX0_addBoard 42 = .ok (.getfield 35, 3) := by decide +kernel
theorem dX0_addBoard_45 : decode cX0_addBoard 45 = .ok (.iload 4, 2) := by decide +kernel
theorem dX0_addBoard_47 : decode cX0_addBoard 47 = .ok (.iconst 0, 1) := by decide +kernel
theorem dX0_addBoard_48 : decode cX0_addBoard 48 = .ok (.invokevirtual 45, 3) := by decide +kernel
theorem dX0_addBoard_51 : decode cX0_addBoard 51 = .ok (.aload_n 0, 1) := by decide +kernel
theorem dX0_addBoard_52 : decode cX0_addBoard 52 = .ok (.getfield 23, 3) := by decide +kernel
theorem dX0_addBoard_55 : decode cX0_addBoard 55 = .ok (.iload_n 3, 1) := by decide +kernel
theorem dX0_addBoard_56 : decode cX0_addBoard 56 = .ok (.iconst 1, 1) := by decide +kernel
theorem dX0_addBoard_57 : decode cX0_addBoard 57 = .ok (.invokevirtual 71, 3) := by decide +kernel
theorem dX0_addBoard_60 : decode cX0_addBoard 60 = .ok (.return_, 1) := by decide +kernel
theorem dX0_boardWith_0 : decode cX0_boardWith 0 = .ok (.iconst 0, 1) := by decide +kernel
theorem dX0_boardWith_1 : decode cX0_boardWith 1 = .ok (.istore_n 3, 1) := by decide +kernel
theorem dX0_boardWith_2 : decode cX0_boardWith 2 = .ok (.iload_n 3, 1) := by decide +kernel
theorem dX0_boardWith_3 : decode cX0_boardWith 3 = .ok (.aload_n 0, 1) := by decide +kernel
theorem dX0_boardWith_4 : decode cX0_boardWith 4 = .ok (.getfield 23, 3) := by decide +kernel
theorem dX0_boardWith_7 : decode cX0_boardWith 7 = .ok (.iload_n 1, 1) := by decide +kernel
theorem dX0_boardWith_8 : decode cX0_boardWith 8 = .ok (.invokevirtual 63, 3) := by decide +kernel
theorem dX0_boardWith_11 : decode cX0_boardWith 11 = .ok (.if_icmp .ge 44, 3) := by decide +kernel
theorem dX0_boardWith_14 : decode cX0_boardWith 14 = .ok (.iload_n 1, 1) := by decide +kernel
theorem dX0_boardWith_15 : decode cX0_boardWith 15 = .ok (.iload_n 3, 1) := by decide +kernel
theorem dX0_boardWith_16 : decode cX0_boardWith 16 = .ok (.invokestatic 67, 3) := by decide +kernel
theorem dX0_boardWith_19 : decode cX0_boardWith 19 = .ok (.istore 4, 2) := by decide +kernel
theorem dX0_boardWith_21 : decode cX0_boardWith 21 = .ok (.aload_n 0, 1) := by decide +kernel
theorem dX0_boardWith_22 : decode cX0_boardWith 22 = .ok (.getfield 29, 3) := by decide +kernel
theorem dX0_boardWith_25 : decode cX0_boardWith 25 = .ok (.iload 4, 2) := by decide +kernel
theorem dX0_boardWith_27 : decode cX0_boardWith 27 = .ok (.invokevirtual 63, 3) := by decide +kernel
theorem dX0_boardWith_30 : decode cX0_boardWith 30 = .ok (.iload_n 2, 1) := by decide +kernel
theorem dX0_boardWith_31 : decode cX0_boardWith 31 = .ok (.if_icmp .eq 16, 3) := by decide +kernel
theorem dX0_boardWith_34 : decode cX0_boardWith 34 = .ok (.aload_n 0, 1) := by decide +kernel
theorem dX0_boardWith_35 : decode cX0_boardWith 35 = .ok (.getfield 32, 3) := by decide +kernel
theorem dX0_boardWith_38 : decode cX0_boardWith 38 = .ok (.iload 4, 2) := by decide +kernel
theorem dX0_boardWith_40 : decode cX0_boardWith 40 = .ok (.invokevirtual 63, 3) := by decide +kernel
theorem dX0_boardWith_43 : decode cX0_boardWith 43 = .ok (.iload_n 2, 1) := by decide +kernel
theorem dX0_boardWith_44 : decode cX0_boardWith 44 = .ok (.if_icmp .ne 5, 3) := by decide +kernel
theorem dX0_boardWith_47 : decode cX0_boardWith 47 = .ok (.iload_n 3, 1) := by decide +kernel
theorem dX0_boardWith_48 : decode cX0_boardWith 48 = .ok (.ireturn, 1) := by decide +kernel
theorem dX0_boardWith_49 : decode cX0_boardWith 49 = .ok (.iinc 3 1, 3) := by decide +kernel
theorem dX0_boardWith_52 : decode cX0_boardWith 52 = .ok (.goto (-50), 3) := by decide +kernel
theorem dX0_boardWith_55 : decode cX0_boardWith 55 = .ok (.bipush (-5), 2) := by decide +kernel
theorem dX0_boardWith_57 : decode cX0_boardWith 57 = .ok (.ireturn, 1) := by decide +kernel
theorem dX0_colourAt_0 : decode cX0_colourAt 0 = .ok (.aload_n 0, 1) := by decide +kernel
theorem dX0_colourAt_1 : decode cX0_colourAt 1 = .ok (.getfield 29, 3) := by decide +kernel
theorem dX0_colourAt_4 : decode cX0_colourAt 4 = .ok (.iload_n 1, 1) := by decide +kernel
theorem dX0_colourAt_5 : decode cX0_colourAt 5 = .ok (.iload_n 2, 1) := by decide +kernel
theorem dX0_colourAt_6 : decode cX0_colourAt 6 = .ok (.invokestatic 67, 3) := by decide +kernel
theorem dX0_colourAt_9 : decode cX0_colourAt 9 = .ok (.invokevirtual 63, 3) := by decide +kernel
theorem dX0_colourAt_12 : decode cX0_colourAt 12 = .ok (.iload_n 3, 1) := by decide +kernel
theorem dX0_colourAt_13 : decode cX0_colourAt 13 = .ok (.if_icmp .ne 7, 3) := by decide +kernel
theorem dX0_colourAt_16 : decode cX0_colourAt 16 = .ok (.iconst 0, 1) := by decide +kernel
theorem dX0_colourAt_17 : decode cX0_colourAt 17 = .ok (.goto 4, 3) := by decide +kernel
theorem dX0_colourAt_20 : decode cX0_colourAt 20 = .ok (.iconst 1, 1) := by decide +kernel
theorem dX0_colourAt_21 : decode cX0_colourAt 21 = .ok (.ireturn, 1) := by decide +kernel
theorem dX0_otherAt_0 : decode cX0_otherAt 0 = .ok (.iload_n 1, 1) := by decide +kernel
theorem dX0_otherAt_1 : decode cX0_otherAt 1 = .ok (.iload_n 2, 1) := by decide +kernel
theorem dX0_otherAt_2 : decode cX0_otherAt 2 = .ok (.invokestatic 67, 3) := by decide +kernel
theorem dX0_otherAt_5 : decode cX0_otherAt 5 = .ok (.istore 4, 2) := by decide +kernel
theorem dX0_otherAt_7 : decode cX0_otherAt 7 = .ok (.aload_n 0, 1) := by decide +kernel
theorem dX0_otherAt_8 : decode cX0_otherAt 8 = .ok (.getfield 29, 3) := by decide +kernel
theorem dX0_otherAt_11 : decode cX0_otherAt 11 = .ok (.iload 4, 2) := by decide +kernel
theorem dX0_otherAt_13 : decode cX0_otherAt 13 = .ok (.invokevirtual 63, 3) := by decide +kernel
theorem dX0_otherAt_16 : decode cX0_otherAt 16 = .ok (.iload_n 3, 1) := by decide +kernel
theorem dX0_otherAt_17 : decode cX0_otherAt 17 = .ok (.if_icmp .ne 15, 3) := by decide +kernel
theorem dX0_otherAt_20 : decode cX0_otherAt 20 = .ok (.aload_n 0, 1) := by decide +kernel
theorem dX0_otherAt_21 : decode cX0_otherAt 21 = .ok (.getfield 32, 3) := by decide +kernel
theorem dX0_otherAt_24 : decode cX0_otherAt 24 = .ok (.iload 4, 2) := by decide +kernel
theorem dX0_otherAt_26 : decode cX0_otherAt 26 = .ok (.invokevirtual 63, 3) := by decide +kernel
theorem dX0_otherAt_29 : decode cX0_otherAt 29 = .ok (.goto 12, 3) := by decide +kernel
theorem dX0_otherAt_32 : decode cX0_otherAt 32 = .ok (.aload_n 0, 1) := by decide +kernel
theorem dX0_otherAt_33 : decode cX0_otherAt 33 = .ok (.getfield 29, 3) := by decide +kernel
theorem dX0_otherAt_36 : decode cX0_otherAt 36 = .ok (.iload 4, 2) := by decide +kernel
theorem dX0_otherAt_38 : decode cX0_otherAt 38 = .ok (.invokevirtual 63, 3) := by decide +kernel
theorem dX0_otherAt_41 : decode cX0_otherAt 41 = .ok (.ireturn, 1) := by decide +kernel
theorem dX0_outcomeFor_0 : decode cX0_outcomeFor 0 = .ok (.aload_n 0, 1) := by decide +kernel
theorem dX0_outcomeFor_1 : decode cX0_outcomeFor 1 = .ok (.getfield 35, 3) := by decide +kernel
theorem dX0_outcomeFor_4 : decode cX0_outcomeFor 4 = .ok (.iload_n 1, 1) := by decide +kernel
theorem dX0_outcomeFor_5 : decode cX0_outcomeFor 5 = .ok (.iload_n 2, 1) := by decide +kernel
theorem dX0_outcomeFor_6 : decode cX0_outcomeFor 6 = .ok (.invokestatic 67, 3) := by decide +kernel
theorem dX0_outcomeFor_9 : decode cX0_outcomeFor 9 = .ok (.invokevirtual 63, 3) := by decide +kernel
theorem dX0_outcomeFor_12 : decode cX0_outcomeFor 12 = .ok (.istore 4, 2) := by decide +kernel
theorem dX0_outcomeFor_14 : decode cX0_outcomeFor 14 = .ok (.aload_n 0, 1) := by decide +kernel
theorem dX0_outcomeFor_15 : decode cX0_outcomeFor 15 = .ok (.iload_n 1, 1) := by decide +kernel
theorem dX0_outcomeFor_16 : decode cX0_outcomeFor 16 = .ok (.iload_n 2, 1) := by decide +kernel
theorem dX0_outcomeFor_17 : decode cX0_outcomeFor 17 = .ok (.iload_n 3, 1) := by decide +kernel
theorem dX0_outcomeFor_18 : decode cX0_outcomeFor 18 = .ok (.invokevirtual 74, 3) := by decide +kernel
theorem dX0_outcomeFor_21 : decode cX0_outcomeFor 21 = .ok (.ifCond .ne 8, 3) := by decide +kernel
theorem dX0_outcomeFor_24 : decode cX0_outcomeFor 24 = .ok (.iload 4, 2) := by decide +kernel
theorem dX0_outcomeFor_26 : decode cX0_outcomeFor 26 = .ok (.goto 8, 3) := by decide +kernel
theorem dX0_outcomeFor_29 : decode cX0_outcomeFor 29 = .ok (.iload 4, 2) := by decide +kernel
theorem dX0_outcomeFor_31 : decode cX0_outcomeFor 31 = .ok (.invokestatic 78, 3) := by decide +kernel
theorem dX0_outcomeFor_34 : decode cX0_outcomeFor 34 = .ok (.ireturn, 1) := by decide +kernel
theorem dX1_init_0 : decode cX1_init 0 = .ok (.aload_n 0, 1) := by decide +kernel
theorem dX1_init_1 : decode cX1_init 1 = .ok (.invokespecial 3, 3) := by decide +kernel
theorem dX1_init_4 : decode cX1_init 4 = .ok (.aload_n 0, 1) := by decide +kernel
theorem dX1_init_5 : decode cX1_init 5 = .ok (.new 9, 3) := by decide +kernel
theorem dX1_init_8 : decode cX1_init 8 = .ok (.dup, 1) := by decide +kernel
theorem dX1_init_9 : decode cX1_init 9 = .ok (.bipush 12, 2) := by decide +kernel
theorem dX1_init_11 : decode cX1_init 11 = .ok (.invokespecial 11, 3) := by decide +kernel
theorem dX1_init_14 : decode cX1_init 14 = .ok (.putfield 14, 3) := by decide +kernel
theorem dX1_init_17 : decode cX1_init 17 = .ok (.aload_n 0, 1) := by decide +kernel
theorem dX1_init_18 : decode cX1_init 18 = .ok (.new 9, 3) := by decide +kernel
theorem dX1_init_21 : decode cX1_init 21 = .ok (.dup, 1) := by decide +kernel
theorem dX1_init_22 : decode cX1_init 22 = .ok (.sipush 144, 3) := by decide +kernel
theorem dX1_init_25 : decode cX1_init 25 = .ok (.invokespecial 11, 3) := by decide +kernel
theorem dX1_init_28 : decode cX1_init 28 = .ok (.putfield 20, 3) := by decide +kernel
theorem dX1_init_31 : decode cX1_init 31 = .ok (.aload_n 0, 1) := by decide +kernel
theorem dX1_init_32 : decode cX1_init 32 = .ok (.new 9, 3) := by decide +kernel
theorem dX1_init_35 : decode cX1_init 35 = .ok (.dup, 1) := by decide +kernel
theorem dX1_init_36 : decode cX1_init 36 = .ok (.sipush 4096, 3) := by decide +kernel
theorem dX1_init_39 : decode cX1_init 39 = .ok (.invokespecial 11, 3) := by decide +kernel
theorem dX1_init_42 : decode cX1_init 42 = .ok (.putfield 23, 3) := by decide +kernel
theorem dX1_init_45 : decode cX1_init 45 = .ok (.aload_n 0, 1) := by decide +kernel
theorem dX1_init_46 : decode cX1_init 46 = .ok (.new 9, 3) := by decide +kernel
theorem dX1_init_49 : decode cX1_init 49 = .ok (.dup, 1) := by decide +kernel
theorem dX1_init_50 : decode cX1_init 50 = .ok (.sipush 4096, 3) := by decide +kernel
theorem dX1_init_53 : decode cX1_init 53 = .ok (.invokespecial 11, 3) := by decide +kernel
theorem dX1_init_56 : decode cX1_init 56 = .ok (.putfield 26, 3) := by decide +kernel
theorem dX1_init_59 : decode cX1_init 59 = .ok (.aload_n 0, 1) := by decide +kernel
theorem dX1_init_60 : decode cX1_init 60 = .ok (.aload_n 1, 1) := by decide +kernel
theorem dX1_init_61 : decode cX1_init 61 = .ok (.putfield 29, 3) := by decide +kernel
theorem dX1_init_64 : decode cX1_init 64 = .ok (.aload_n 0, 1) := by decide +kernel
theorem dX1_init_65 : decode cX1_init 65 = .ok (.aload_n 2, 1) := by decide +kernel
theorem dX1_init_66 : decode cX1_init 66 = .ok (.putfield 33, 3) := by decide +kernel
theorem dX1_init_69 : decode cX1_init 69 = .ok (.return_, 1) := by decide +kernel
theorem dX1_arrange_0 : decode cX1_arrange 0 = .ok (.aload_n 0, 1) := by decide +kernel
theorem dX1_arrange_1 : decode cX1_arrange 1 = .ok (.invokevirtual 37, 3) := by decide +kernel
theorem dX1_arrange_4 : decode cX1_arrange 4 = .ok (.aload_n 0, 1) := by decide +kernel
theorem dX1_arrange_5 : decode cX1_arrange 5 = .ok (.invokevirtual 40, 3) := by decide +kernel
theorem dX1_arrange_8 : decode cX1_arrange 8 = .ok (.aload_n 0, 1) := by decide +kernel
theorem dX1_arrange_9 : decode cX1_arrange 9 = .ok (.invokevirtual 43, 3) := by decide +kernel
theorem dX1_arrange_12 : decode cX1_arrange 12 = .ok (.aload_n 0, 1) := by decide +kernel
theorem dX1_arrange_13 : decode cX1_arrange 13 = .ok (.getfield 26, 3) := by decide +kernel
theorem dX1_arrange_16 : decode cX1_arrange 16 = .ok (.iconst 0, 1) := by decide +kernel
theorem dX1_arrange_17 : decode cX1_arrange 17 = .ok (.iconst 1, 1) := by decide +kernel
theorem dX1_arrange_18 : decode cX1_arrange 18 = .ok (.invokevirtual 46, 3) := by decide +kernel
theorem dX1_arrange_21 : decode cX1_arrange 21 = .ok (.aload_n 0, 1) := by decide +kernel
theorem dX1_arrange_22 : decode cX1_arrange 22 = .ok (.invokevirtual 50, 3) := by decide +kernel
theorem dX1_arrange_25 : decode cX1_arrange 25 = .ok (.istore_n 1, 1) := by decide +kernel
theorem dX1_arrange_26 : decode cX1_arrange 26 = .ok (.iconst 1, 1) := by decide +kernel
theorem dX1_arrange_27 : decode cX1_arrange 27 = .ok (.istore_n 2, 1) := by decide +kernel
theorem dX1_arrange_28 : decode cX1_arrange 28 = .ok (.iload_n 2, 1) := by decide +kernel
theorem dX1_arrange_29 : decode cX1_arrange 29 = .ok (.iload_n 1, 1) := by decide +kernel
theorem dX1_arrange_30 : decode cX1_arrange 30 = .ok (.if_icmp .gt 22, 3) := by decide +kernel
theorem dX1_arrange_33 : decode cX1_arrange 33 = .ok (.aload_n 0, 1) := by decide +kernel
theorem dX1_arrange_34 : decode cX1_arrange 34 = .ok (.iload_n 2, 1) := by decide +kernel
theorem dX1_arrange_35 : decode cX1_arrange 35 = .ok (.invokevirtual 54, 3) := by decide +kernel
theorem dX1_arrange_38 : decode cX1_arrange 38 = .ok (.ifCond .eq 8, 3) := by decide +kernel
theorem dX1_arrange_41 : decode cX1_arrange 41 = .ok (.aload_n 0, 1) := by decide +kernel
theorem dX1_arrange_42 : decode cX1_arrange 42 = .ok (.iload_n 2, 1) := by decide +kernel
theorem dX1_arrange_43 : decode cX1_arrange 43 = .ok (.invokevirtual 58, 3) := by decide +kernel
theorem dX1_arrange_46 : decode cX1_arrange 46 = .ok (.iinc 2 1, 3) := by decide +kernel
theorem dX1_arrange_49 : decode cX1_arrange 49 = .ok (.goto (-21), 3) := by decide +kernel
theorem dX1_arrange_52 : decode cX1_arrange 52 = .ok (.return_, 1) := by decide +kernel
theorem dX1_leastCost_0 : decode cX1_leastCost 0 = .ok (.aload_n 0, 1) := by decide +kernel
theorem dX1_leastCost_1 : decode cX1_leastCost 1 = .ok (.getfield 23, 3) := by decide +kernel
theorem dX1_leastCost_4 : decode cX1_leastCost 4 = .ok (.aload_n 0, 1) := by decide +kernel
theorem dX1_leastCost_5 : decode cX1_leastCost 5 = .ok (.invokevirtual 50, 3) := by decide +kernel
theorem dX1_leastCost_8 : decode cX1_leastCost 8 = .ok (.invokevirtual 61, 3) := by decide +kernel
theorem dX1_leastCost_11 : decode cX1_leastCost 11 = .ok (.ireturn, 1) := by decide +kernel
theorem dX1_countWays_0 : decode cX1_countWays 0 = .ok (.aload_n 0, 1) := by decide +kernel
theorem dX1_countWays_1 : decode cX1_countWays 1 = .ok (.getfield 26, 3) := by decide +kernel
theorem dX1_countWays_4 : decode cX1_countWays 4 = .ok (.aload_n 0, 1) := by decide +kernel
theorem dX1_countWays_5 : decode cX1_countWays 5 = .ok (.invokevirtual 50, 3) := by decide +kernel
theorem dX1_countWays_8 : decode cX1_countWays 8 = .ok (.invokevirtual 61, 3) := by decide +kernel
theorem dX1_countWays_11 : decode cX1_countWays 11 = .ok (.ireturn, 1) := by decide +kernel
theorem dX1_openRound_0 : decode cX1_openRound 0 = .ok (.aload_n 0, 1) := by decide +kernel
theorem dX1_openRound_1 : decode cX1_openRound 1 = .ok (.getfield 29, 3) := by decide +kernel
theorem dX1_openRound_4 : decode cX1_openRound 4 = .ok (.aload_n 0, 1) := by decide +kernel
theorem dX1_openRound_5 : decode cX1_openRound 5 = .ok (.getfield 65, 3) := by decide +kernel
theorem dX1_openRound_8 : decode cX1_openRound 8 = .ok (.invokevirtual 69, 3) := by decide +kernel
theorem dX1_openRound_11 : decode cX1_openRound 11 = .ok (.aload_n 0, 1) := by decide +kernel
theorem dX1_openRound_12 : decode cX1_openRound 12 = .ok (.invokevirtual 50, 3) := by decide +kernel
theorem dX1_openRound_15 : decode cX1_openRound 15 = .ok (.istore_n 1, 1) := by decide +kernel
theorem dX1_openRound_16 : decode cX1_openRound 16 = .ok (.iconst 0, 1) := by decide +kernel
theorem dX1_openRound_17 : decode cX1_openRound 17 = .ok (.istore_n 2, 1) := by decide +kernel
theorem dX1_openRound_18 : decode cX1_openRound 18 = .ok (.iload_n 2, 1) := by decide +kernel
theorem dX1_openRound_19 : decode cX1_openRound 19 = .ok (.aload_n 0, 1) := by decide +kernel
theorem dX1_openRound_20 : decode cX1_openRound 20 = .ok (.getfield 74, 3) := by decide +kernel
theorem dX1_openRound_23 : decode cX1_openRound 23 = .ok (.iconst 2, 1) := by decide +kernel
theorem dX1_openRound_24 : decode cX1_openRound 24 = .ok (.idiv, 1) := by decide +kernel
theorem dX1_openRound_25 : decode cX1_openRound 25 = .ok (.if_icmp .ge 51, 3) := by decide +kernel
theorem dX1_openRound_28 : decode cX1_openRound 28 = .ok (.iload_n 1, 1) := by decide +kernel
theorem dX1_openRound_29 : decode cX1_openRound 29 = .ok (.invokestatic 77, 3) := by decide +kernel
theorem dX1_openRound_32 : decode cX1_openRound 32 = .ok (.istore_n 3, 1) := by decide +kernel
theorem dX1_openRound_33 : decode cX1_openRound 33 = .ok (.aload_n 0, 1) := by decide +kernel
theorem dX1_openRound_34 : decode cX1_openRound 34 = .ok (.iload_n 1, 1) := by decide +kernel
theorem dX1_openRound_35 : decode cX1_openRound 35 = .ok (.invokevirtual 80, 3) := by decide +kernel
theorem dX1_openRound_38 : decode cX1_openRound 38 = .ok (.istore 4, 2) := by decide +kernel
theorem dX1_openRound_40 : decode cX1_openRound 40 = .ok (.aload_n 0, 1) := by decide +kernel
theorem dX1_openRound_41 : decode cX1_openRound 41 = .ok (.iload_n 2, 1) := by decide +kernel
theorem dX1_openRound_42 : decode cX1_openRound 42 = .ok (.aload_n 0, 1) := by decide +kernel
theorem dX1_openRound_43 : decode cX1_openRound 43 = .ok (.getfield 14, 3) := by decide +kernel
theorem dX1_openRound_46 : decode cX1_openRound 46 = .ok (.iload_n 3, 1) := by decide +kernel
theorem dX1_openRound_47 : decode cX1_openRound 47 = .ok (.invokevirtual 61, 3) := by decide +kernel
theorem dX1_openRound_50 : decode cX1_openRound 50 = .ok (.aload_n 0, 1) := by decide +kernel
theorem dX1_openRound_51 : decode cX1_openRound 51 = .ok (.getfield 14, 3) := by decide +kernel
theorem dX1_openRound_54 : decode cX1_openRound 54 = .ok (.iload 4, 2) := by decide +kernel
theorem dX1_openRound_56 : decode cX1_openRound 56 = .ok (.invokevirtual 61, 3) := by decide +kernel
theorem dX1_openRound_59 : decode cX1_openRound 59 = .ok (.invokevirtual 83, 3) := by decide +kernel
theorem dX1_openRound_62 : decode cX1_openRound 62 = .ok (.iload_n 1, 1) := by decide +kernel
theorem dX1_openRound_63 : decode cX1_openRound 63 = .ok (.iload_n 3, 1) := by decide +kernel
theorem dX1_openRound_64 : decode cX1_openRound 64 = .ok (.iload 4, 2) := by decide +kernel
theorem dX1_openRound_66 : decode cX1_openRound 66 = .ok (.invokestatic 87, 3) := by decide +kernel
theorem dX1_openRound_69 : decode cX1_openRound 69 = .ok (.istore_n 1, 1) := by decide +kernel
theorem dX1_openRound_70 : decode cX1_openRound 70 = .ok (.iinc 2 1, 3) := by decide +kernel
theorem dX1_openRound_73 : decode cX1_openRound 73 = .ok (.goto (-55), 3) := by decide +kernel
theorem dX1_openRound_76 : decode cX1_openRound 76 = .ok (.return_, 1) := by decide +kernel
theorem dX1_wholeSet_0 : decode cX1_wholeSet 0 = .ok (.iconst 1, 1) := by decide +kernel
theorem dX1_wholeSet_1 : decode cX1_wholeSet 1 = .ok (.aload_n 0, 1) := by decide +kernel
theorem dX1_wholeSet_2 : decode cX1_wholeSet 2 = .ok (.getfield 74, 3) := by decide +kernel
theorem dX1_wholeSet_5 : decode cX1_wholeSet 5 = .ok (.ishl, 1) := by decide +kernel
theorem dX1_wholeSet_6 : decode cX1_wholeSet 6 = .ok (.iconst 1, 1) := by decide +kernel
theorem dX1_wholeSet_7 : decode cX1_wholeSet 7 = .ok (.isub, 1) := by decide +kernel
theorem dX1_wholeSet_8 : decode cX1_wholeSet 8 = .ok (.ireturn, 1) := by decide +kernel
theorem dX1_firstSeat_0 : decode cX1_firstSeat 0 = .ok (.iload_n 0, 1) := by decide +kernel
theorem dX1_firstSeat_1 : decode cX1_firstSeat 1 = .ok (.iload_n 0, 1) := by decide +kernel
theorem dX1_firstSeat_2 : decode cX1_firstSeat 2 = .ok (.ineg, 1) := by decide +kernel
theorem dX1_firstSeat_3 : decode cX1_firstSeat 3 = .ok (.iand, 1) := by decide +kernel
theorem dX1_firstSeat_4 : decode cX1_firstSeat 4 = .ok (.iconst 1, 1) := by decide +kernel
theorem dX1_firstSeat_5 : decode cX1_firstSeat 5 = .ok (.isub, 1) := by decide +kernel
theorem dX1_firstSeat_6 : decode cX1_firstSeat 6 = .ok (.invokestatic 91, 3) := by decide +kernel
theorem dX1_firstSeat_9 : decode cX1_firstSeat 9 = .ok (.ireturn, 1) := by decide +kernel
theorem dX1_without_0 : decode cX1_without 0 = .ok (.iload_n 0, 1) := by decide +kernel
theorem dX1_without_1 : decode cX1_without 1 = .ok (.iconst 1, 1) := by decide +kernel
theorem dX1_without_2 : decode cX1_without 2 = .ok (.iload_n 1, 1) := by decide +kernel
theorem dX1_without_3 : decode cX1_without 3 = .ok (.ishl, 1) := by decide +kernel
theorem dX1_without_4 : decode cX1_without 4 = .ok (.iconst (-1), 1) := by decide +kernel
theorem dX1_without_5 : decode cX1_without 5 = .ok (.ixor, 1) := by decide +kernel
theorem dX1_without_6 : decode cX1_without 6 = .ok (.iand, 1) := by decide +kernel
theorem dX1_without_7 : decode cX1_without 7 = .ok (.iconst 1, 1) := by decide +kernel
theorem dX1_without_8 : decode cX1_without 8 = .ok (.iload_n 2, 1) := by decide +kernel
theorem dX1_without_9 : decode cX1_without 9 = .ok (.ishl, 1) := by decide +kernel
theorem dX1_without_10 : decode cX1_without 10 = .ok (.iconst (-1), 1) := by decide +kernel
theorem dX1_without_11 : decode cX1_without 11 = .ok (.ixor, 1) := by decide +kernel
theorem dX1_without_12 : decode cX1_without 12 = .ok (.iand, 1) := by decide +kernel
theorem dX1_without_13 : decode cX1_without 13 = .ok (.ireturn, 1) := by decide +kernel
theorem dX1_seatAll_0 : decode cX1_seatAll 0 = .ok (.aload_n 0, 1) := by decide +kernel
theorem dX1_seatAll_1 : decode cX1_seatAll 1 = .ok (.iconst 0, 1) := by decide +kernel
theorem dX1_seatAll_2 : decode cX1_seatAll 2 = .ok (.putfield 74, 3) := by decide +kernel
theorem dX1_seatAll_5 : decode cX1_seatAll 5 = .ok (.iconst 0, 1) := by decide +kernel
theorem dX1_seatAll_6 : decode cX1_seatAll 6 = .ok (.istore_n 1, 1) := by decide +kernel
theorem dX1_seatAll_7 : decode cX1_seatAll 7 = .ok (.iload_n 1, 1) := by decide +kernel
theorem dX1_seatAll_8 : decode cX1_seatAll 8 = .ok (.aload_n 0, 1) := by decide +kernel
theorem dX1_seatAll_9 : decode cX1_seatAll 9 = .ok (.getfield 29, 3) := by decide +kernel
theorem dX1_seatAll_12 : decode cX1_seatAll 12 = .ok (.getfield 96, 3) := by decide +kernel
theorem dX1_seatAll_15 : decode cX1_seatAll 15 = .ok (.if_icmp .ge 58, 3) := by decide +kernel
theorem dX1_seatAll_18 : decode cX1_seatAll 18 = .ok (.aload_n 0, 1) := by decide +kernel
theorem dX1_seatAll_19 : decode cX1_seatAll 19 = .ok (.getfield 33, 3) := by decide +kernel
theorem dX1_seatAll_22 : decode cX1_seatAll 22 = .ok (.getfield 99, 3) := by decide +kernel
theorem dX1_seatAll_25 : decode cX1_seatAll 25 = .ok (.iload_n 1, 1) := by decide +kernel
theorem dX1_seatAll_26 : decode cX1_seatAll 26 = .ok (.invokevirtual 61, 3) := by decide +kernel
theorem dX1_seatAll_29 : decode cX1_seatAll 29 = .ok (.istore_n 2, 1) := by decide +kernel
theorem dX1_seatAll_30 : decode cX1_seatAll 30 = .ok (.aload_n 0, 1) := by decide +kernel
theorem dX1_seatAll_31 : decode cX1_seatAll 31 = .ok (.getfield 29, 3) := by decide +kernel
theorem dX1_seatAll_34 : decode cX1_seatAll 34 = .ok (.getfield 104, 3) := by decide +kernel
theorem dX1_seatAll_37 : decode cX1_seatAll 37 = .ok (.iload_n 2, 1) := by decide +kernel
theorem dX1_seatAll_38 : decode cX1_seatAll 38 = .ok (.invokevirtual 61, 3) := by decide +kernel
theorem dX1_seatAll_41 : decode cX1_seatAll 41 = .ok (.iconst 1, 1) := by decide +kernel
theorem dX1_seatAll_42 : decode cX1_seatAll 42 = .ok (.if_icmp .ne 25, 3) := by decide +kernel
theorem dX1_seatAll_45 : decode cX1_seatAll 45 = .ok (.aload_n 0, 1) := by decide +kernel
theorem dX1_seatAll_46 : decode cX1_seatAll 46 = .ok (.getfield 14, 3) := by decide +kernel
theorem dX1_seatAll_49 : decode cX1_seatAll 49 = .ok (.aload_n 0, 1) := by decide +kernel
theorem dX1_seatAll_50 : decode cX1_seatAll 50 = .ok (.getfield 74, 3) := by decide +kernel
theorem dX1_seatAll_53 : decode cX1_seatAll 53 = .ok (.iload_n 2, 1) := by decide +kernel
theorem dX1_seatAll_54 : decode cX1_seatAll 54 = .ok (.invokevirtual 46, 3) := by decide +kernel
theorem dX1_seatAll_57 : decode cX1_seatAll 57 = .ok (.aload_n 0, 1) := by decide +kernel
theorem dX1_seatAll_58 : decode cX1_seatAll 58 = .ok (.dup, 1) := by decide +kernel
theorem dX1_seatAll_59 : decode cX1_seatAll 59 = .ok (.getfield 74, 3) := by decide +kernel
theorem dX1_seatAll_62 : decode cX1_seatAll 62 = .ok (.iconst 1, 1) := by decide +kernel
theorem dX1_seatAll_63 : decode cX1_seatAll 63 = .ok (.iadd, 1) := by decide +kernel
theorem dX1_seatAll_64 : decode cX1_seatAll 64 = .ok (.putfield 74, 3) := by decide +kernel
theorem dX1_seatAll_67 : decode cX1_seatAll 67 = .ok (.iinc 1 1, 3) := by decide +kernel
theorem dX1_seatAll_70 : decode cX1_seatAll 70 = .ok (.goto (-63), 3) := by decide +kernel
theorem dX1_seatAll_73 : decode cX1_seatAll 73 = .ok (.return_, 1) := by decide +kernel
theorem dX1_giveBye_0 : decode cX1_giveBye 0 = .ok (.aload_n 0, 1) := by decide +kernel
theorem dX1_giveBye_1 : decode cX1_giveBye 1 = .ok (.bipush (-5), 2) := by decide +kernel
theorem dX1_giveBye_3 : decode cX1_giveBye 3 = .ok (.putfield 65, 3) := by decide +kernel
theorem dX1_giveBye_6 : decode cX1_giveBye 6 = .ok (.aload_n 0, 1) := by decide +kernel
theorem dX1_giveBye_7 : decode cX1_giveBye 7 = .ok (.getfield 74, 3) := by decide +kernel
theorem dX1_giveBye_10 : decode cX1_giveBye 10 = .ok (.iconst 2, 1) := by decide +kernel
theorem dX1_giveBye_11 : decode cX1_giveBye 11 = .ok (.irem, 1) := by decide +kernel
theorem dX1_giveBye_12 : decode cX1_giveBye 12 = .ok (.ifCond .ne 4, 3) := by decide +kernel
theorem dX1_giveBye_15 : decode cX1_giveBye 15 = .ok (.return_, 1) := by decide +kernel
theorem dX1_giveBye_16 : decode cX1_giveBye 16 = .ok (.aload_n 0, 1) := by decide +kernel
theorem dX1_giveBye_17 : decode cX1_giveBye 17 = .ok (.invokevirtual 107, 3) := by decide +kernel
theorem dX1_giveBye_20 : decode cX1_giveBye 20 = .ok (.istore_n 1, 1) := by decide +kernel
theorem dX1_giveBye_21 : decode cX1_giveBye 21 = .ok (.aload_n 0, 1) := by decide +kernel
theorem dX1_giveBye_22 : decode cX1_giveBye 22 = .ok (.aload_n 0, 1) := by decide +kernel
theorem dX1_giveBye_23 : decode cX1_giveBye 23 = .ok (.getfield 14, 3) := by decide +kernel
theorem dX1_giveBye_26 : decode cX1_giveBye 26 = .ok (.iload_n 1, 1) := by decide +kernel
theorem dX1_giveBye_27 : decode cX1_giveBye 27 = .ok (.invokevirtual 61, 3) := by decide +kernel
theorem dX1_giveBye_30 : decode cX1_giveBye 30 = .ok (.putfield 65, 3) := by decide +kernel
theorem dX1_giveBye_33 : decode cX1_giveBye 33 = .ok (.aload_n 0, 1) := by decide +kernel
theorem dX1_giveBye_34 : decode cX1_giveBye 34 = .ok (.dup, 1) := by decide +kernel
theorem dX1_giveBye_35 : decode cX1_giveBye 35 = .ok (.getfield 74, 3) := by decide +kernel
theorem dX1_giveBye_38 : decode cX1_giveBye 38 = .ok (.iconst 1, 1) := by decide +kernel
theorem dX1_giveBye_39 : decode cX1_giveBye 39 = .ok (.isub, 1) := by decide +kernel
theorem dX1_giveBye_40 : decode cX1_giveBye 40 = .ok (.putfield 74, 3) := by decide +kernel
theorem dX1_giveBye_43 : decode cX1_giveBye 43 = .ok (.iload_n 1, 1) := by decide +kernel
theorem dX1_giveBye_44 : decode cX1_giveBye 44 = .ok (.istore_n 2, 1) := by decide +kernel
theorem dX1_giveBye_45 : decode cX1_giveBye 45 = .ok (.iload_n 2, 1) := by decide +kernel
theorem dX1_giveBye_46 : decode cX1_giveBye 46 = .ok (.aload_n 0, 1) := by decide +kernel
theorem dX1_giveBye_47 : decode cX1_giveBye 47 = .ok (.getfield 74, 3) := by decide +kernel
theorem dX1_giveBye_50 : decode cX1_giveBye 50 = .ok (.if_icmp .ge 27, 3) := by decide +kernel
theorem dX1_giveBye_53 : decode cX1_giveBye 53 = .ok (.aload_n 0, 1) := by decide +kernel
theorem dX1_giveBye_54 : decode cX1_giveBye 54 = .ok (.getfield 14, 3) := by decide +kernel
theorem dX1_giveBye_57 : decode cX1_giveBye 57 = .ok (.iload_n 2, 1) := by decide +kernel
theorem dX1_giveBye_58 : decode cX1_giveBye 58 = .ok (.aload_n 0, 1) := by decide +kernel
theorem dX1_giveBye_59 : decode cX1_giveBye 59 = .ok (.getfield 14, 3) := by decide +kernel
theorem dX1_giveBye_62 : decode cX1_giveBye 62 = .ok (.iload_n 2, 1) := by decide +kernel
theorem dX1_giveBye_63 : decode cX1_giveBye 63 = .ok (.iconst 1, 1) := by decide +kernel
theorem dX1_giveBye_64 : decode cX1_giveBye 64 = .ok (.iadd, 1) := by decide +kernel
theorem dX1_giveBye_65 : decode cX1_giveBye 65 = .ok (.invokevirtual 61, 3) := by decide +kernel
theorem dX1_giveBye_68 : decode cX1_giveBye 68 = .ok (.invokevirtual 46, 3) := by decide +kernel
theorem dX1_giveBye_71 : decode cX1_giveBye 71 = .ok (.iinc 2 1, 3) := by decide +kernel
theorem dX1_giveBye_74 : decode cX1_giveBye 74 = .ok (.goto (-29), 3) := by decide +kernel
theorem dX1_giveBye_77 : decode cX1_giveBye 77 = .ok (.return_, 1) := by decide +kernel
theorem dX1_seatOfBye_0 : decode cX1_seatOfBye 0 = .ok (.aload_n 0, 1) := by decide +kernel
theorem dX1_seatOfBye_1 : decode cX1_seatOfBye 1 = .ok (.getfield 74, 3) := by decide +kernel
theorem dX1_seatOfBye_4 : decode cX1_seatOfBye 4 = .ok (.iconst 1, 1) := by decide +kernel
theorem dX1_seatOfBye_5 : decode cX1_seatOfBye 5 = .ok (.isub, 1) := by decide +kernel
theorem dX1_seatOfBye_6 : decode cX1_seatOfBye 6 = .ok (.istore_n 1, 1) := by decide +kernel
theorem dX1_seatOfBye_7 : decode cX1_seatOfBye 7 = .ok (.iload_n 1, 1) := by decide +kernel
theorem dX1_seatOfBye_8 : decode cX1_seatOfBye 8 = .ok (.ifCond .lt 48, 3) := by decide +kernel
theorem dX1_seatOfBye_11 : decode cX1_seatOfBye 11 = .ok (.aload_n 0, 1) := by decide +kernel
theorem dX1_seatOfBye_12 : decode cX1_seatOfBye 12 = .ok (.getfield 14, 3) := by decide +kernel
theorem dX1_seatOfBye_15 : decode cX1_seatOfBye 15 = .ok (.iload_n 1, 1) := by decide +kernel
theorem dX1_seatOfBye_16 : decode cX1_seatOfBye 16 = .ok (.invokevirtual 61, 3) := by decide +kernel
theorem dX1_seatOfBye_19 : decode cX1_seatOfBye 19 = .ok (.istore_n 2, 1) := by decide +kernel
theorem dX1_seatOfBye_20 : decode cX1_seatOfBye 20 = .ok (.aload_n 0, 1) := by decide +kernel
theorem dX1_seatOfBye_21 : decode cX1_seatOfBye 21 = .ok (.getfield 33, 3) := by decide +kernel
theorem dX1_seatOfBye_24 : decode cX1_seatOfBye 24 = .ok (.getfield 110, 3) := by decide +kernel
theorem dX1_seatOfBye_27 : decode cX1_seatOfBye 27 = .ok (.iload_n 2, 1) := by decide +kernel
theorem dX1_seatOfBye_28 : decode cX1_seatOfBye 28 = .ok (.invokevirtual 61, 3) := by decide +kernel
theorem dX1_seatOfBye_31 : decode cX1_seatOfBye 31 = .ok (.ifCond .ne 19, 3) := by decide +kernel
theorem dX1_seatOfBye_34 : decode cX1_seatOfBye 34 = .ok (.aload_n 0, 1) := by decide +kernel
theorem dX1_seatOfBye_35 : decode cX1_seatOfBye 35 = .ok (.getfield 33, 3) := by decide +kernel
theorem dX1_seatOfBye_38 : decode cX1_seatOfBye 38 = .ok (.getfield 113, 3) := by decide +kernel
theorem dX1_seatOfBye_41 : decode cX1_seatOfBye 41 = .ok (.iload_n 2, 1) := by decide +kernel
theorem dX1_seatOfBye_42 : decode cX1_seatOfBye 42 = .ok (.invokevirtual 61, 3) := by decide +kernel
theorem dX1_seatOfBye_45 : decode cX1_seatOfBye 45 = .ok (.ifCond .ne 5, 3) := by decide +kernel
theorem dX1_seatOfBye_48 : decode cX1_seatOfBye 48 = .ok (.iload_n 1, 1) := by decide +kernel
theorem dX1_seatOfBye_49 : decode cX1_seatOfBye 49 = .ok (.ireturn, 1) := by decide +kernel
theorem dX1_seatOfBye_50 : decode cX1_seatOfBye 50 = .ok (.iinc 1 (-1), 3) := by decide +kernel
theorem dX1_seatOfBye_53 : decode cX1_seatOfBye 53 = .ok (.goto (-46), 3) := by decide +kernel
theorem dX1_seatOfBye_56 : decode cX1_seatOfBye 56 = .ok (.aload_n 0, 1) := by decide +kernel
theorem dX1_seatOfBye_57 : decode cX1_seatOfBye 57 = .ok (.getfield 74, 3) := by decide +kernel
theorem dX1_seatOfBye_60 : decode cX1_seatOfBye 60 = .ok (.iconst 1, 1) := by decide +kernel
theorem dX1_seatOfBye_61 : decode cX1_seatOfBye 61 = .ok (.isub, 1) := by decide +kernel
theorem dX1_seatOfBye_62 : decode cX1_seatOfBye 62 = .ok (.ireturn, 1) := by decide +kernel
theorem dX1_noteCosts_0 : decode cX1_noteCosts 0 = .ok (.iconst 0, 1) := by decide +kernel
theorem dX1_noteCosts_1 : decode cX1_noteCosts 1 = .ok (.istore_n 1, 1) := by decide +kernel
theorem dX1_noteCosts_2 : decode cX1_noteCosts 2 = .ok (.iload_n 1, 1) := by decide +kernel
theorem dX1_noteCosts_3 : decode cX1_noteCosts 3 = .ok (.aload_n 0, 1) := by decide +kernel
theorem dX1_noteCosts_4 : decode cX1_noteCosts 4 = .ok (.getfield 74, 3) := by decide +kernel
theorem dX1_noteCosts_7 : decode cX1_noteCosts 7 = .ok (.if_icmp .ge 63, 3) := by decide +kernel
theorem dX1_noteCosts_10 : decode cX1_noteCosts 10 = .ok (.iload_n 1, 1) := by decide +kernel
theorem dX1_noteCosts_11 : decode cX1_noteCosts 11 = .ok (.iconst 1, 1) := by decide +kernel
theorem dX1_noteCosts_12 : decode cX1_noteCosts 12 = .ok (.iadd, 1) := by decide +kernel
theorem dX1_noteCosts_13 : decode cX1_noteCosts 13 = .ok (.istore_n 2, 1) := by decide +kernel
theorem dX1_noteCosts_14 : decode cX1_noteCosts 14 = .ok (.iload_n 2, 1) := by decide +kernel
theorem dX1_noteCosts_15 : decode cX1_noteCosts 15 = .ok (.aload_n 0, 1) := by decide +kernel
theorem dX1_noteCosts_16 : decode cX1_noteCosts 16 = .ok (.getfield 74, 3) := by decide +kernel
theorem dX1_noteCosts_19 : decode cX1_noteCosts 19 = .ok (.if_icmp .ge 45, 3) := by decide +kernel
theorem dX1_noteCosts_22 : decode cX1_noteCosts 22 = .ok (.aload_n 0, 1) := by decide +kernel
theorem dX1_noteCosts_23 : decode cX1_noteCosts 23 = .ok (.getfield 20, 3) := by decide +kernel
theorem dX1_noteCosts_26 : decode cX1_noteCosts 26 = .ok (.iload_n 1, 1) := by decide +kernel
theorem dX1_noteCosts_27 : decode cX1_noteCosts 27 = .ok (.bipush 12, 2) := by decide +kernel
theorem dX1_noteCosts_29 : decode cX1_noteCosts 29 = .ok (.imul, 1) := by decide +kernel
theorem dX1_noteCosts_30 : decode cX1_noteCosts 30 = .ok (.iload_n 2, 1) := by decide +kernel
theorem dX1_noteCosts_31 : decode cX1_noteCosts 31 = .ok (.iadd, 1) := by decide +kernel
theorem dX1_noteCosts_32 : decode cX1_noteCosts 32 = .ok (.aload_n 0, 1) := by decide +kernel
theorem dX1_noteCosts_33 : decode cX1_noteCosts 33 = .ok (.getfield 33, 3) := by decide +kernel
theorem dX1_noteCosts_36 : decode cX1_noteCosts 36 = .ok (.aload_n 0, 1) := by decide +kernel
theorem dX1_noteCosts_37 : decode cX1_noteCosts 37 = .ok (.getfield 14, 3) := by decide +kernel
theorem dX1_noteCosts_40 : decode cX1_noteCosts 40 = .ok (.iload_n 1, 1) := by decide +kernel
theorem dX1_noteCosts_41 : decode cX1_noteCosts 41 = .ok (.invokevirtual 61, 3) := by decide +kernel
theorem dX1_noteCosts_44 : decode cX1_noteCosts 44 = .ok (.aload_n 0, 1) := by decide +kernel
theorem dX1_noteCosts_45 : decode cX1_noteCosts 45 = .ok (.getfield 14, 3) := by decide +kernel
theorem dX1_noteCosts_48 : decode cX1_noteCosts 48 = .ok (.iload_n 2, 1) := by decide +kernel
theorem dX1_noteCosts_49 : decode cX1_noteCosts 49 = .ok (.invokevirtual 61, 3) := by decide +kernel
theorem dX1_noteCosts_52 : decode cX1_noteCosts 52 = .ok (.invokevirtual 116, 3) := by decide +kernel
theorem dX1_noteCosts_55 : decode cX1_noteCosts 55 = .ok (.invokevirtual 46, 3) := by decide +kernel
theorem dX1_noteCosts_58 : decode cX1_noteCosts 58 = .ok (.iinc 2 1, 3) := by decide +kernel
theorem dX1_noteCosts_61 : decode cX1_noteCosts 61 = .ok (.goto (-47), 3) := by decide +kernel
theorem dX1_noteCosts_64 : decode cX1_noteCosts 64 = .ok (.iinc 1 1, 3) := by decide +kernel
theorem dX1_noteCosts_67 : decode cX1_noteCosts 67 = .ok (.goto (-65), 3) := by decide +kernel
theorem dX1_noteCosts_70 : decode cX1_noteCosts 70 = .ok (.return_, 1) := by decide +kernel
theorem dX1_isReached_0 : decode cX1_isReached 0 = .ok (.aload_n 0, 1) := by decide +kernel
theorem dX1_isReached_1 : decode cX1_isReached 1 = .ok (.getfield 74, 3) := by decide +kernel
theorem dX1_isReached_4 : decode cX1_isReached 4 = .ok (.iload_n 1, 1) := by decide +kernel
theorem dX1_isReached_5 : decode cX1_isReached 5 = .ok (.invokestatic 91, 3) := by decide +kernel
theorem dX1_isReached_8 : decode cX1_isReached 8 = .ok (.isub, 1) := by decide +kernel
theorem dX1_isReached_9 : decode cX1_isReached 9 = .ok (.istore_n 2, 1) := by decide +kernel
theorem dX1_isReached_10 : decode cX1_isReached 10 = .ok (.iload_n 2, 1) := by decide +kernel
theorem dX1_isReached_11 : decode cX1_isReached 11 = .ok (.iconst 2, 1) := by decide +kernel
theorem dX1_isReached_12 : decode cX1_isReached 12 = .ok (.irem, 1) := by decide +kernel
theorem dX1_isReached_13 : decode cX1_isReached 13 = .ok (.ifCond .ne 17, 3) := by decide +kernel
theorem dX1_isReached_16 : decode cX1_isReached 16 = .ok (.iload_n 1, 1) := by decide +kernel
theorem dX1_isReached_17 : decode cX1_isReached 17 = .ok (.invokestatic 77, 3) := by decide +kernel
theorem dX1_isReached_20 : decode cX1_isReached 20 = .ok (.iload_n 2, 1) := by decide +kernel
theorem dX1_isReached_21 : decode cX1_isReached 21 = .ok (.iconst 2, 1) := by decide +kernel
theorem dX1_isReached_22 : decode cX1_isReached 22 = .ok (.idiv, 1) := by decide +kernel
theorem dX1_isReached_23 : decode cX1_isReached 23 = .ok (.if_icmp .lt 7, 3) := by decide +kernel
theorem dX1_isReached_26 : decode cX1_isReached 26 = .ok (.iconst 1, 1) := by decide +kernel
theorem dX1_isReached_27 : decode cX1_isReached 27 = .ok (.goto 4, 3) := by decide +kernel
theorem dX1_isReached_30 : decode cX1_isReached 30 = .ok (.iconst 0, 1) := by decide +kernel
theorem dX1_isReached_31 : decode cX1_isReached 31 = .ok (.ireturn, 1) := by decide +kernel
theorem dX1_weigh_0 : decode cX1_weigh 0 = .ok (.iload_n 1, 1) := by decide +kernel
theorem dX1_weigh_1 : decode cX1_weigh 1 = .ok (.invokestatic 77, 3) := by decide +kernel
theorem dX1_weigh_4 : decode cX1_weigh 4 = .ok (.istore_n 2, 1) := by decide +kernel
theorem dX1_weigh_5 : decode cX1_weigh 5 = .ok (.bipush (-9), 2) := by decide +kernel
theorem dX1_weigh_7 : decode cX1_weigh 7 = .ok (.istore_n 3, 1) := by decide +kernel
theorem dX1_weigh_8 : decode cX1_weigh 8 = .ok (.iconst 0, 1) := by decide +kernel
theorem dX1_weigh_9 : decode cX1_weigh 9 = .ok (.istore 4, 2) := by decide +kernel
theorem dX1_weigh_11 : decode cX1_weigh 11 = .ok (.iload_n 2, 1) := by decide +kernel
theorem dX1_weigh_12 : decode cX1_weigh 12 = .ok (.iconst 1, 1) := by decide +kernel
theorem dX1_weigh_13 : decode cX1_weigh 13 = .ok (.iadd, 1) := by decide +kernel
theorem dX1_weigh_14 : decode cX1_weigh 14 = .ok (.istore 5, 2) := by decide +kernel
theorem dX1_weigh_16 : decode cX1_weigh 16 = .ok (.iload 5, 2) := by decide +kernel
theorem dX1_weigh_18 : decode cX1_weigh 18 = .ok (.aload_n 0, 1) := by decide +kernel
theorem dX1_weigh_19 : decode cX1_weigh 19 = .ok (.getfield 74, 3) := by decide +kernel
theorem dX1_weigh_22 : decode cX1_weigh 22 = .ok (.if_icmp .ge 63, 3) := by decide +kernel
theorem dX1_weigh_25 : decode cX1_weigh 25 = .ok (.aload_n 0, 1) := by decide +kernel
theorem dX1_weigh_26 : decode cX1_weigh 26 = .ok (.iload_n 1, 1) := by decide +kernel
theorem dX1_weigh_27 : decode cX1_weigh 27 = .ok (.iload_n 2, 1) := by decide +kernel
theorem dX1_weigh_28 : decode cX1_weigh 28 = .ok (.iload 5, 2) := by decide +kernel
theorem dX1_weigh_30 : decode cX1_weigh 30 = .ok (.invokevirtual 120, 3) := by decide +kernel
theorem dX1_weigh_33 : decode cX1_weigh 33 = .ok (.istore 6, 2) := by decide +kernel
theorem dX1_weigh_35 : decode cX1_weigh 35 = .ok (.iload 6, 2) := by decide +kernel
theorem dX1_weigh_37 : decode cX1_weigh 37 = .ok (.bipush (-9), 2) := by decide +kernel
theorem dX1_weigh_39 : decode cX1_weigh 39 = .ok (.if_icmp .eq 40, 3) := by decide +kernel
theorem dX1_weigh_42 : decode cX1_weigh 42 = .ok (.iload 4, 2) := by decide +kernel
theorem dX1_weigh_44 : decode cX1_weigh 44 = .ok (.aload_n 0, 1) := by decide +kernel
theorem dX1_weigh_45 : decode cX1_weigh 45 = .ok (.getfield 26, 3) := by decide +kernel
theorem dX1_weigh_48 : decode cX1_weigh 48 = .ok (.iload_n 1, 1) := by decide +kernel
theorem dX1_weigh_49 : decode cX1_weigh 49 = .ok (.iload_n 2, 1) := by decide +kernel
theorem dX1_weigh_50 : decode cX1_weigh 50 = .ok (.iload 5, 2) := by decide +kernel
theorem dX1_weigh_52 : decode cX1_weigh 52 = .ok (.invokestatic 87, 3) := by decide +kernel
theorem dX1_weigh_55 : decode cX1_weigh 55 = .ok (.invokevirtual 61, 3) := by decide +kernel
theorem dX1_weigh_58 : decode cX1_weigh 58 = .ok (.iadd, 1) := by decide +kernel
theorem dX1_weigh_59 : decode cX1_weigh 59 = .ok (.istore 4, 2) := by decide +kernel
theorem dX1_weigh_61 : decode cX1_weigh 61 = .ok (.iload_n 3, 1) := by decide +kernel
theorem dX1_weigh_62 : decode cX1_weigh 62 = .ok (.bipush (-9), 2) := by decide +kernel
theorem dX1_weigh_64 : decode cX1_weigh 64 = .ok (.if_icmp .ne 8, 3) := by decide +kernel
theorem dX1_weigh_67 : decode cX1_weigh 67 = .ok (.iload 6, 2) := by decide +kernel
theorem dX1_weigh_69 : decode cX1_weigh 69 = .ok (.goto 9, 3) := by decide +kernel
theorem dX1_weigh_72 : decode cX1_weigh 72 = .ok (.iload_n 3, 1) := by decide +kernel
theorem dX1_weigh_73 : decode cX1_weigh 73 = .ok (.iload 6, 2) := by decide +kernel
theorem dX1_weigh_75 : decode cX1_weigh 75 = .ok (.invokestatic 123, 3) := by decide +kernel
theorem dX1_weigh_78 : decode cX1_weigh 78 = .ok (.istore_n 3, 1) := by decide +kernel
theorem dX1_weigh_79 : decode cX1_weigh 79 = .ok (.iinc 5 1, 3) := by decide +kernel
theorem dX1_weigh_82 : decode cX1_weigh 82 = .ok (.goto (-66), 3) := by decide +kernel
theorem dX1_weigh_85 : decode cX1_weigh 85 = .ok (.aload_n 0, 1) := by decide +kernel
theorem dX1_weigh_86 : decode cX1_weigh 86 = .ok (.getfield 23, 3) := by decide +kernel
theorem dX1_weigh_89 : decode cX1_weigh 89 = .ok (.iload_n 1, 1) := by decide +kernel
theorem dX1_weigh_90 : decode cX1_weigh 90 = .ok (.iload_n 3, 1) := by decide +kernel
theorem dX1_weigh_91 : decode cX1_weigh 91 = .ok (.invokevirtual 46, 3) := by decide +kernel
theorem dX1_weigh_94 : decode cX1_weigh 94 = .ok (.aload_n 0, 1) := by decide +kernel
theorem dX1_weigh_95 : decode cX1_weigh 95 = .ok (.getfield 26, 3) := by decide +kernel
theorem dX1_weigh_98 : decode cX1_weigh 98 = .ok (.iload_n 1, 1) := by decide +kernel
theorem dX1_weigh_99 : decode cX1_weigh 99 = .ok (.iload 4, 2) := by decide +kernel
theorem dX1_weigh_101 : decode cX1_weigh 101 = .ok (.invokevirtual 46, 3) := by decide +kernel
theorem dX1_weigh_104 : decode cX1_weigh 104 = .ok (.return_, 1) := by decide +kernel
theorem dX1_sumWith_0 : decode cX1_sumWith 0 = .ok (.aload_n 0, 1) := by decide +kernel
theorem dX1_sumWith_1 : decode cX1_sumWith 1 = .ok (.getfield 20, 3) := by decide +kernel
theorem dX1_sumWith_4 : decode cX1_sumWith 4 = .ok (.iload_n 2, 1) := by decide +kernel
theorem dX1_sumWith_5 : decode cX1_sumWith 5 = .ok (.bipush 12, 2) := by decide +kernel
theorem dX1_sumWith_7 : decode cX1_sumWith 7 = .ok (.imul, 1) := by decide +kernel
theorem dX1_sumWith_8 : decode cX1_sumWith 8 = .ok (.iload_n 3, 1) := by decide +kernel
theorem dX1_sumWith_9 : decode cX1_sumWith 9 = .ok (.iadd, 1) := by decide +kernel
theorem dX1_sumWith_10 : decode cX1_sumWith 10 = .ok (.invokevirtual 61, 3) := by decide +kernel
theorem dX1_sumWith_13 : decode cX1_sumWith 13 = .ok (.istore 4, 2) := by decide +kernel
theorem dX1_sumWith_15 : decode cX1_sumWith 15 = .ok (.aload_n 0, 1) := by decide +kernel
theorem dX1_sumWith_16 : decode cX1_sumWith 16 = .ok (.getfield 23, 3) := by decide +kernel
theorem dX1_sumWith_19 : decode cX1_sumWith 19 = .ok (.iload_n 1, 1) := by decide +kernel
theorem dX1_sumWith_20 : decode cX1_sumWith 20 = .ok (.iload_n 2, 1) := by decide +kernel
theorem dX1_sumWith_21 : decode cX1_sumWith 21 = .ok (.iload_n 3, 1) := by decide +kernel
theorem dX1_sumWith_22 : decode cX1_sumWith 22 = .ok (.invokestatic 87, 3) := by decide +kernel
theorem dX1_sumWith_25 : decode cX1_sumWith 25 = .ok (.invokevirtual 61, 3) := by decide +kernel
theorem dX1_sumWith_28 : decode cX1_sumWith 28 = .ok (.istore 5, 2) := by decide +kernel
theorem dX1_sumWith_30 : decode cX1_sumWith 30 = .ok (.iload_n 1, 1) := by decide +kernel
theorem dX1_sumWith_31 : decode cX1_sumWith 31 = .ok (.iload_n 3, 1) := by decide +kernel
theorem dX1_sumWith_32 : decode cX1_sumWith 32 = .ok (.ishr, 1) := by decide +kernel
theorem dX1_sumWith_33 : decode cX1_sumWith 33 = .ok (.iconst 1, 1) := by decide +kernel
theorem dX1_sumWith_34 : decode cX1_sumWith 34 = .ok (.iand, 1) := by decide +kernel
theorem dX1_sumWith_35 : decode cX1_sumWith 35 = .ok (.ifCond .eq 17, 3) := by decide +kernel
theorem dX1_sumWith_38 : decode cX1_sumWith 38 = .ok (.iload 4, 2) := by decide +kernel
theorem dX1_sumWith_40 : decode cX1_sumWith 40 = .ok (.bipush (-5), 2) := by decide +kernel
theorem dX1_sumWith_42 : decode cX1_sumWith 42 = .ok (.if_icmp .eq 10, 3) := by decide +kernel
theorem dX1_sumWith_45 : decode cX1_sumWith 45 = .ok (.iload 5, 2) := by decide +kernel
theorem dX1_sumWith_47 : decode cX1_sumWith 47 = .ok (.bipush (-9), 2) := by decide +kernel
theorem dX1_sumWith_49 : decode cX1_sumWith 49 = .ok (.if_icmp .ne 6, 3) := by decide +kernel
theorem dX1_sumWith_52 : decode cX1_sumWith 52 = .ok (.bipush (-9), 2) := by decide +kernel
theorem dX1_sumWith_54 : decode cX1_sumWith 54 = .ok (.ireturn, 1) := by decide +kernel
theorem dX1_sumWith_55 : decode cX1_sumWith 55 = .ok (.iload 4, 2) := by decide +kernel
theorem dX1_sumWith_57 : decode cX1_sumWith 57 = .ok (.iload 5, 2) := by decide +kernel
theorem dX1_sumWith_59 : decode cX1_sumWith 59 = .ok (.iadd, 1) := by decide +kernel
theorem dX1_sumWith_60 : decode cX1_sumWith 60 = .ok (.ireturn, 1) := by decide +kernel
theorem dX1_earliestMate_0 : decode cX1_earliestMate 0 = .ok (.iload_n 1, 1) := by decide +kernel
theorem dX1_earliestMate_1 : decode cX1_earliestMate 1 = .ok (.invokestatic 77, 3) := by decide +kernel
theorem dX1_earliestMate_4 : decode cX1_earliestMate 4 = .ok (.istore_n 2, 1) := by decide +kernel
theorem dX1_earliestMate_5 : decode cX1_earliestMate 5 = .ok (.iload_n 2, 1) := by decide +kernel
theorem dX1_earliestMate_6 : decode cX1_earliestMate 6 = .ok (.iconst 1, 1) := by decide +kernel
theorem dX1_earliestMate_7 : decode cX1_earliestMate 7 = .ok (.iadd, 1) := by decide +kernel
theorem dX1_earliestMate_8 : decode cX1_earliestMate 8 = .ok (.istore_n 3, 1) := by decide +kernel
theorem dX1_earliestMate_9 : decode cX1_earliestMate 9 = .ok (.iload_n 3, 1) := by decide +kernel
theorem dX1_earliestMate_10 : decode cX1_earliestMate 10 = .ok (.aload_n 0, 1) := by decide +kernel
theorem dX1_earliestMate_11 : decode cX1_earliestMate 11 = .ok (.getfield 74, 3) := by decide +kernel
theorem dX1_earliestMate_14 : decode cX1_earliestMate 14 = .ok (.if_icmp .ge 40, 3) := by decide +kernel
theorem dX1_earliestMate_17 : decode cX1_earliestMate 17 = .ok (.aload_n 0, 1) := by decide +kernel
theorem dX1_earliestMate_18 : decode cX1_earliestMate 18 = .ok (.iload_n 1, 1) := by decide +kernel
theorem dX1_earliestMate_19 : decode cX1_earliestMate 19 = .ok (.iload_n 2, 1) := by decide +kernel
theorem dX1_earliestMate_20 : decode cX1_earliestMate 20 = .ok (.iload_n 3, 1) := by decide +kernel
theorem dX1_earliestMate_21 : decode cX1_earliestMate 21 = .ok (.invokevirtual 120, 3) := by decide +kernel
theorem dX1_earliestMate_24 : decode cX1_earliestMate 24 = .ok (.istore 4, 2) := by decide +kernel
theorem dX1_earliestMate_26 : decode cX1_earliestMate 26 = .ok (.iload 4, 2) := by decide +kernel
theorem dX1_earliestMate_28 : decode cX1_earliestMate 28 = .ok (.bipush (-9), 2) := by decide +kernel
theorem dX1_earliestMate_30 : decode cX1_earliestMate 30 = .ok (.if_icmp .eq 18, 3) := by decide +kernel
theorem dX1_earliestMate_33 : decode cX1_earliestMate 33 = .ok (.iload 4, 2) := by decide +kernel
theorem dX1_earliestMate_35 : decode cX1_earliestMate 35 = .ok (.aload_n 0, 1) := by decide +kernel
theorem dX1_earliestMate_36 : decode cX1_earliestMate 36 = .ok (.getfield 23, 3) := by decide +kernel
theorem dX1_earliestMate_39 : decode cX1_earliestMate 39 = .ok (.iload_n 1, 1) := by decide +kernel
theorem dX1_earliestMate_40 : decode cX1_earliestMate 40 = .ok (.invokevirtual 61, 3) := by decide +kernel
theorem dX1_earliestMate_43 : decode cX1_earliestMate 43 = .ok (.if_icmp .ne 5, 3) := by decide +kernel
theorem dX1_earliestMate_46 : decode cX1_earliestMate 46 = .ok (.iload_n 3, 1) := by decide +kernel
theorem dX1_earliestMate_47 : decode cX1_earliestMate 47 = .ok (.ireturn, 1) := by decide +kernel
theorem dX1_earliestMate_48 : decode cX1_earliestMate 48 = .ok (.iinc 3 1, 3) := by decide +kernel
theorem dX1_earliestMate_51 : decode cX1_earliestMate 51 = .ok (.goto (-42), 3) := by decide +kernel
theorem dX1_earliestMate_54 : decode cX1_earliestMate 54 = .ok (.iload_n 2, 1) := by decide +kernel
theorem dX1_earliestMate_55 : decode cX1_earliestMate 55 = .ok (.ireturn, 1) := by decide +kernel
theorem dX1_seatBoard_0 : decode cX1_seatBoard 0 = .ok (.aload_n 0, 1) := by decide +kernel
theorem dX1_seatBoard_1 : decode cX1_seatBoard 1 = .ok (.iload_n 1, 1) := by decide +kernel
theorem dX1_seatBoard_2 : decode cX1_seatBoard 2 = .ok (.iload_n 2, 1) := by decide +kernel
theorem dX1_seatBoard_3 : decode cX1_seatBoard 3 = .ok (.iload_n 3, 1) := by decide +kernel
theorem dX1_seatBoard_4 : decode cX1_seatBoard 4 = .ok (.invokevirtual 128, 3) := by decide +kernel
theorem dX1_seatBoard_7 : decode cX1_seatBoard 7 = .ok (.ifCond .eq 15, 3) := by decide +kernel
theorem dX1_seatBoard_10 : decode cX1_seatBoard 10 = .ok (.aload_n 0, 1) := by decide +kernel
theorem dX1_seatBoard_11 : decode cX1_seatBoard 11 = .ok (.getfield 29, 3) := by decide +kernel
theorem dX1_seatBoard_14 : decode cX1_seatBoard 14 = .ok (.iload_n 2, 1) := by decide +kernel
theorem dX1_seatBoard_15 : decode cX1_seatBoard 15 = .ok (.iload_n 3, 1) := by decide +kernel
theorem dX1_seatBoard_16 : decode cX1_seatBoard 16 = .ok (.invokevirtual 132, 3) := by decide +kernel
theorem dX1_seatBoard_19 : decode cX1_seatBoard 19 = .ok (.goto 12, 3) := by decide +kernel
theorem dX1_seatBoard_22 : decode cX1_seatBoard 22 = .ok (.aload_n 0, 1) := by decide +kernel
theorem dX1_seatBoard_23 : decode cX1_seatBoard 23 = .ok (.getfield 29, 3) := by decide +kernel
theorem dX1_seatBoard_26 : decode cX1_seatBoard 26 = .ok (.iload_n 3, 1) := by decide +kernel
theorem dX1_seatBoard_27 : decode cX1_seatBoard 27 = .ok (.iload_n 2, 1) := by decide +kernel
theorem dX1_seatBoard_28 : decode cX1_seatBoard 28 = .ok (.invokevirtual 132, 3) := by decide +kernel
theorem dX1_seatBoard_31 : decode cX1_seatBoard 31 = .ok (.return_, 1) := by decide +kernel
theorem dX1_hasWhite_0 : decode cX1_hasWhite 0 = .ok (.aload_n 0, 1) := by decide +kernel
theorem dX1_hasWhite_1 : decode cX1_hasWhite 1 = .ok (.getfield 33, 3) := by decide +kernel
theorem dX1_hasWhite_4 : decode cX1_hasWhite 4 = .ok (.getfield 135, 3) := by decide +kernel
theorem dX1_hasWhite_7 : decode cX1_hasWhite 7 = .ok (.iload_n 2, 1) := by decide +kernel
theorem dX1_hasWhite_8 : decode cX1_hasWhite 8 = .ok (.invokevirtual 61, 3) := by decide +kernel
theorem dX1_hasWhite_11 : decode cX1_hasWhite 11 = .ok (.istore 4, 2) := by decide +kernel
theorem dX1_hasWhite_13 : decode cX1_hasWhite 13 = .ok (.aload_n 0, 1) := by decide +kernel
theorem dX1_hasWhite_14 : decode cX1_hasWhite 14 = .ok (.getfield 33, 3) := by decide +kernel
theorem dX1_hasWhite_17 : decode cX1_hasWhite 17 = .ok (.getfield 135, 3) := by decide +kernel
theorem dX1_hasWhite_20 : decode cX1_hasWhite 20 = .ok (.iload_n 3, 1) := by decide +kernel
theorem dX1_hasWhite_21 : decode cX1_hasWhite 21 = .ok (.invokevirtual 61, 3) := by decide +kernel
theorem dX1_hasWhite_24 : decode cX1_hasWhite 24 = .ok (.istore 5, 2) := by decide +kernel
theorem dX1_hasWhite_26 : decode cX1_hasWhite 26 = .ok (.iload 4, 2) := by decide +kernel
theorem dX1_hasWhite_28 : decode cX1_hasWhite 28 = .ok (.iload 5, 2) := by decide +kernel
theorem dX1_hasWhite_30 : decode cX1_hasWhite 30 = .ok (.if_icmp .eq 16, 3) := by decide +kernel
theorem dX1_hasWhite_33 : decode cX1_hasWhite 33 = .ok (.iload 4, 2) := by decide +kernel
theorem dX1_hasWhite_35 : decode cX1_hasWhite 35 = .ok (.iload 5, 2) := by decide +kernel
theorem dX1_hasWhite_37 : decode cX1_hasWhite 37 = .ok (.if_icmp .ge 7, 3) := by decide +kernel
theorem dX1_hasWhite_40 : decode cX1_hasWhite 40 = .ok (.iconst 1, 1) := by decide +kernel
theorem dX1_hasWhite_41 : decode cX1_hasWhite 41 = .ok (.goto 4, 3) := by decide +kernel
theorem dX1_hasWhite_44 : decode cX1_hasWhite 44 = .ok (.iconst 0, 1) := by decide +kernel
theorem dX1_hasWhite_45 : decode cX1_hasWhite 45 = .ok (.ireturn, 1) := by decide +kernel
theorem dX1_hasWhite_46 : decode cX1_hasWhite 46 = .ok (.aload_n 0, 1) := by decide +kernel
theorem dX1_hasWhite_47 : decode cX1_hasWhite 47 = .ok (.getfield 33, 3) := by decide +kernel
theorem dX1_hasWhite_50 : decode cX1_hasWhite 50 = .ok (.getfield 138, 3) := by decide +kernel
theorem dX1_hasWhite_53 : decode cX1_hasWhite 53 = .ok (.iload_n 2, 1) := by decide +kernel
theorem dX1_hasWhite_54 : decode cX1_hasWhite 54 = .ok (.invokevirtual 61, 3) := by decide +kernel
theorem dX1_hasWhite_57 : decode cX1_hasWhite 57 = .ok (.iconst 1, 1) := by decide +kernel
theorem dX1_hasWhite_58 : decode cX1_hasWhite 58 = .ok (.if_icmp .ne 7, 3) := by decide +kernel
theorem dX1_hasWhite_61 : decode cX1_hasWhite 61 = .ok (.iconst 1, 1) := by decide +kernel
theorem dX1_hasWhite_62 : decode cX1_hasWhite 62 = .ok (.goto 4, 3) := by decide +kernel
theorem dX1_hasWhite_65 : decode cX1_hasWhite 65 = .ok (.iconst 0, 1) := by decide +kernel
theorem dX1_hasWhite_66 : decode cX1_hasWhite 66 = .ok (.istore 6, 2) := by decide +kernel
theorem dX1_hasWhite_68 : decode cX1_hasWhite 68 = .ok (.aload_n 0, 1) := by decide +kernel
theorem dX1_hasWhite_69 : decode cX1_hasWhite 69 = .ok (.getfield 33, 3) := by decide +kernel
theorem dX1_hasWhite_72 : decode cX1_hasWhite 72 = .ok (.getfield 138, 3) := by decide +kernel
theorem dX1_hasWhite_75 : decode cX1_hasWhite 75 = .ok (.iload_n 3, 1) := by decide +kernel
theorem dX1_hasWhite_76 : decode cX1_hasWhite 76 = .ok (.invokevirtual 61, 3) := by decide +kernel
theorem dX1_hasWhite_79 : decode cX1_hasWhite 79 = .ok (.iconst 1, 1) := by decide +kernel
theorem dX1_hasWhite_80 : decode cX1_hasWhite 80 = .ok (.if_icmp .ne 7, 3) := by decide +kernel
theorem dX1_hasWhite_83 : decode cX1_hasWhite 83 = .ok (.iconst 1, 1) := by decide +kernel
theorem dX1_hasWhite_84 : decode cX1_hasWhite 84 = .ok (.goto 4, 3) := by decide +kernel
theorem dX1_hasWhite_87 : decode cX1_hasWhite 87 = .ok (.iconst 0, 1) := by decide +kernel
theorem dX1_hasWhite_88 : decode cX1_hasWhite 88 = .ok (.istore 7, 2) := by decide +kernel
theorem dX1_hasWhite_90 : decode cX1_hasWhite 90 = .ok (.iload 6, 2) := by decide +kernel
theorem dX1_hasWhite_92 : decode cX1_hasWhite 92 = .ok (.iload 7, 2) := by decide +kernel
theorem dX1_hasWhite_94 : decode cX1_hasWhite 94 = .ok (.if_icmp .eq 6, 3) := by decide +kernel
theorem dX1_hasWhite_97 : decode cX1_hasWhite 97 = .ok (.iload 6, 2) := by decide +kernel
theorem dX1_hasWhite_99 : decode cX1_hasWhite 99 = .ok (.ireturn, 1) := by decide +kernel
theorem dX1_hasWhite_100 : decode cX1_hasWhite 100 = .ok (.iload_n 1, 1) := by decide +kernel
theorem dX1_hasWhite_101 : decode cX1_hasWhite 101 = .ok (.iconst 2, 1) := by decide +kernel
theorem dX1_hasWhite_102 : decode cX1_hasWhite 102 = .ok (.irem, 1) := by decide +kernel
theorem dX1_hasWhite_103 : decode cX1_hasWhite 103 = .ok (.ifCond .ne 7, 3) := by decide +kernel
theorem dX1_hasWhite_106 : decode cX1_hasWhite 106 = .ok (.iconst 1, 1) := by decide +kernel
theorem dX1_hasWhite_107 : decode cX1_hasWhite 107 = .ok (.goto 4, 3) := by decide +kernel
theorem dX1_hasWhite_110 : decode cX1_hasWhite 110 = .ok (.iconst 0, 1) := by decide +kernel
theorem dX1_hasWhite_111 : decode cX1_hasWhite 111 = .ok (.ireturn, 1) := by decide +kernel
theorem dX2_init_0 : decode cX2_init 0 = .ok (.aload_n 0, 1) := by decide +kernel
theorem dX2_init_1 : decode cX2_init 1 = .ok (.invokespecial 1, 3) := by decide +kernel
theorem dX2_init_4 : decode cX2_init 4 = .ok (.aload_n 0, 1) := by decide +kernel
theorem dX2_init_5 : decode cX2_init 5 = .ok (.iconst 0, 1) := by decide +kernel
theorem dX2_init_6 : decode cX2_init 6 = .ok (.iload_n 1, 1) := by decide +kernel
theorem dX2_init_7 : decode cX2_init 7 = .ok (.invokestatic 7, 3) := by decide +kernel
theorem dX2_init_10 : decode cX2_init 10 = .ok (.newarray .int, 2) := by decide +kernel
theorem dX2_init_12 : decode cX2_init 12 = .ok (.putfield 13, 3) := by decide +kernel
theorem dX2_init_15 : decode cX2_init 15 = .ok (.return_, 1) := by decide +kernel
theorem dX2_at_0 : decode cX2_at 0 = .ok (.iload_n 1, 1) := by decide +kernel
theorem dX2_at_1 : decode cX2_at 1 = .ok (.ifCond .lt 21, 3) := by decide +kernel
theorem dX2_at_4 : decode cX2_at 4 = .ok (.iload_n 1, 1) := by decide +kernel
theorem dX2_at_5 : decode cX2_at 5 = .ok (.aload_n 0, 1) := by decide +kernel
theorem dX2_at_6 : decode cX2_at 6 = .ok (.getfield 13, 3) := by decide +kernel
theorem dX2_at_9 : decode cX2_at 9 = .ok (.arraylength, 1) := by decide +kernel
theorem dX2_at_10 : decode cX2_at 10 = .ok (.if_icmp .ge 12, 3) := by decide +kernel
theorem dX2_at_13 : decode cX2_at 13 = .ok (.aload_n 0, 1) := by decide +kernel
theorem dX2_at_14 : decode cX2_at 14 = .ok (.getfield 13, 3) := by decide +kernel
theorem dX2_at_17 : decode cX2_at 17 = .ok (.iload_n 1, 1) := by decide +kernel
theorem dX2_at_18 : decode cX2_at 18 = .ok (.iaload, 1) := by decide +kernel
theorem dX2_at_19 : decode cX2_at 19 = .ok (.goto 4, 3) := by decide +kernel
theorem dX2_at_22 : decode cX2_at 22 = .ok (.iconst 0, 1) := by decide +kernel
theorem dX2_at_23 : decode cX2_at 23 = .ok (.ireturn, 1) := by decide +kernel
theorem dX2_put_0 : decode cX2_put 0 = .ok (.iload_n 1, 1) := by decide +kernel
theorem dX2_put_1 : decode cX2_put 1 = .ok (.ifCond .lt 19, 3) := by decide +kernel
theorem dX2_put_4 : decode cX2_put 4 = .ok (.iload_n 1, 1) := by decide +kernel
theorem dX2_put_5 : decode cX2_put 5 = .ok (.aload_n 0, 1) := by decide +kernel
theorem dX2_put_6 : decode cX2_put 6 = .ok (.getfield 13, 3) := by decide +kernel
theorem dX2_put_9 : decode cX2_put 9 = .ok (.arraylength, 1) := by decide +kernel
theorem dX2_put_10 : decode cX2_put 10 = .ok (.if_icmp .ge 10, 3) := by decide +kernel
theorem dX2_put_13 : decode cX2_put 13 = .ok (.aload_n 0, 1) := by decide +kernel
theorem dX2_put_14 : decode cX2_put 14 = .ok (.getfield 13, 3) := by decide +kernel
theorem dX2_put_17 : decode cX2_put 17 = .ok (.iload_n 1, 1) := by decide +kernel
theorem dX2_put_18 : decode cX2_put 18 = .ok (.iload_n 2, 1) := by decide +kernel
theorem dX2_put_19 : decode cX2_put 19 = .ok (.iastore, 1) := by decide +kernel
theorem dX2_put_20 : decode cX2_put 20 = .ok (.return_, 1) := by decide +kernel
theorem dX2_add_0 : decode cX2_add 0 = .ok (.iload_n 1, 1) := by decide +kernel
theorem dX2_add_1 : decode cX2_add 1 = .ok (.ifCond .lt 22, 3) := by decide +kernel
theorem dX2_add_4 : decode cX2_add 4 = .ok (.iload_n 1, 1) := by decide +kernel
theorem dX2_add_5 : decode cX2_add 5 = .ok (.aload_n 0, 1) := by decide +kernel
theorem dX2_add_6 : decode cX2_add 6 = .ok (.getfield 13, 3) := by decide +kernel
theorem dX2_add_9 : decode cX2_add 9 = .ok (.arraylength, 1) := by decide +kernel
theorem dX2_add_10 : decode cX2_add 10 = .ok (.if_icmp .ge 13, 3) := by decide +kernel
theorem dX2_add_13 : decode cX2_add 13 = .ok (.aload_n 0, 1) := by decide +kernel
theorem dX2_add_14 : decode cX2_add 14 = .ok (.getfield 13, 3) := by decide +kernel
theorem dX2_add_17 : decode cX2_add 17 = .ok (.iload_n 1, 1) := by decide +kernel
theorem dX2_add_18 : decode cX2_add 18 = .ok (.dup2, 1) := by decide +kernel
theorem dX2_add_19 : decode cX2_add 19 = .ok (.iaload, 1) := by decide +kernel
theorem dX2_add_20 : decode cX2_add 20 = .ok (.iload_n 2, 1) := by decide +kernel
theorem dX2_add_21 : decode cX2_add 21 = .ok (.iadd, 1) := by decide +kernel
theorem dX2_add_22 : decode cX2_add 22 = .ok (.iastore, 1) := by decide +kernel
theorem dX2_add_23 : decode cX2_add 23 = .ok (.return_, 1) := by decide +kernel
theorem dX2_fill_0 : decode cX2_fill 0 = .ok (.iconst 0, 1) := by decide +kernel
theorem dX2_fill_1 : decode cX2_fill 1 = .ok (.istore_n 2, 1) := by decide +kernel
theorem dX2_fill_2 : decode cX2_fill 2 = .ok (.iload_n 2, 1) := by decide +kernel
theorem dX2_fill_3 : decode cX2_fill 3 = .ok (.aload_n 0, 1) := by decide +kernel
theorem dX2_fill_4 : decode cX2_fill 4 = .ok (.getfield 13, 3) := by decide +kernel
theorem dX2_fill_7 : decode cX2_fill 7 = .ok (.arraylength, 1) := by decide +kernel
theorem dX2_fill_8 : decode cX2_fill 8 = .ok (.if_icmp .ge 16, 3) := by decide +kernel
theorem dX2_fill_11 : decode cX2_fill 11 = .ok (.aload_n 0, 1) := by decide +kernel
theorem dX2_fill_12 : decode cX2_fill 12 = .ok (.getfield 13, 3) := by decide +kernel
theorem dX2_fill_15 : decode cX2_fill 15 = .ok (.iload_n 2, 1) := by decide +kernel
theorem dX2_fill_16 : decode cX2_fill 16 = .ok (.iload_n 1, 1) := by decide +kernel
theorem dX2_fill_17 : decode cX2_fill 17 = .ok (.iastore, 1) := by decide +kernel
theorem dX2_fill_18 : decode cX2_fill 18 = .ok (.iinc 2 1, 3) := by decide +kernel
theorem dX2_fill_21 : decode cX2_fill 21 = .ok (.goto (-19), 3) := by decide +kernel
theorem dX2_fill_24 : decode cX2_fill 24 = .ok (.return_, 1) := by decide +kernel
theorem dX2_copy_0 : decode cX2_copy 0 = .ok (.iconst 0, 1) := by decide +kernel
theorem dX2_copy_1 : decode cX2_copy 1 = .ok (.istore_n 2, 1) := by decide +kernel
theorem dX2_copy_2 : decode cX2_copy 2 = .ok (.iload_n 2, 1) := by decide +kernel
theorem dX2_copy_3 : decode cX2_copy 3 = .ok (.aload_n 0, 1) := by decide +kernel
theorem dX2_copy_4 : decode cX2_copy 4 = .ok (.getfield 13, 3) := by decide +kernel
theorem dX2_copy_7 : decode cX2_copy 7 = .ok (.arraylength, 1) := by decide +kernel
theorem dX2_copy_8 : decode cX2_copy 8 = .ok (.if_icmp .ge 20, 3) := by decide +kernel
theorem dX2_copy_11 : decode cX2_copy 11 = .ok (.aload_n 0, 1) := by decide +kernel
theorem dX2_copy_12 : decode cX2_copy 12 = .ok (.getfield 13, 3) := by decide +kernel
theorem dX2_copy_15 : decode cX2_copy 15 = .ok (.iload_n 2, 1) := by decide +kernel
theorem dX2_copy_16 : decode cX2_copy 16 = .ok (.aload_n 1, 1) := by decide +kernel
theorem dX2_copy_17 : decode cX2_copy 17 = .ok (.iload_n 2, 1) := by decide +kernel
theorem dX2_copy_18 : decode cX2_copy 18 = .ok (.invokevirtual 19, 3) := by decide +kernel
theorem dX2_copy_21 : decode cX2_copy 21 = .ok (.iastore, 1) := by decide +kernel
theorem dX2_copy_22 : decode cX2_copy 22 = .ok (.iinc 2 1, 3) := by decide +kernel
theorem dX2_copy_25 : decode cX2_copy 25 = .ok (.goto (-23), 3) := by decide +kernel
theorem dX2_copy_28 : decode cX2_copy 28 = .ok (.return_, 1) := by decide +kernel
theorem dX3_init_0 : decode cX3_init 0 = .ok (.aload_n 0, 1) := by decide +kernel
theorem dX3_init_1 : decode cX3_init 1 = .ok (.invokespecial 3, 3) := by decide +kernel
theorem dX3_init_4 : decode cX3_init 4 = .ok (.aload_n 0, 1) := by decide +kernel
theorem dX3_init_5 : decode cX3_init 5 = .ok (.new 9, 3) := by decide +kernel
theorem dX3_init_8 : decode cX3_init 8 = .ok (.dup, 1) := by decide +kernel
theorem dX3_init_9 : decode cX3_init 9 = .ok (.iconst 4, 1) := by decide +kernel
theorem dX3_init_10 : decode cX3_init 10 = .ok (.invokespecial 11, 3) := by decide +kernel
theorem dX3_init_13 : decode cX3_init 13 = .ok (.putfield 14, 3) := by decide +kernel
theorem dX3_init_16 : decode cX3_init 16 = .ok (.aload_n 0, 1) := by decide +kernel
theorem dX3_init_17 : decode cX3_init 17 = .ok (.new 9, 3) := by decide +kernel
theorem dX3_init_20 : decode cX3_init 20 = .ok (.dup, 1) := by decide +kernel
theorem dX3_init_21 : decode cX3_init 21 = .ok (.bipush 80, 2) := by decide +kernel
theorem dX3_init_23 : decode cX3_init 23 = .ok (.invokespecial 11, 3) := by decide +kernel
theorem dX3_init_26 : decode cX3_init 26 = .ok (.putfield 20, 3) := by decide +kernel
theorem dX3_init_29 : decode cX3_init 29 = .ok (.aload_n 0, 1) := by decide +kernel
theorem dX3_init_30 : decode cX3_init 30 = .ok (.getfield 14, 3) := by decide +kernel
theorem dX3_init_33 : decode cX3_init 33 = .ok (.iconst (-1), 1) := by decide +kernel
theorem dX3_init_34 : decode cX3_init 34 = .ok (.invokevirtual 23, 3) := by decide +kernel
theorem dX3_init_37 : decode cX3_init 37 = .ok (.return_, 1) := by decide +kernel
theorem dX3_isList_0 : decode cX3_isList 0 = .ok (.iload_n 0, 1) := by decide +kernel
theorem dX3_isList_1 : decode cX3_isList 1 = .ok (.ifCond .lt 12, 3) := by decide +kernel
theorem dX3_isList_4 : decode cX3_isList 4 = .ok (.iload_n 0, 1) := by decide +kernel
theorem dX3_isList_5 : decode cX3_isList 5 = .ok (.iconst 4, 1) := by decide +kernel
theorem dX3_isList_6 : decode cX3_isList 6 = .ok (.if_icmp .ge 7, 3) := by decide +kernel
theorem dX3_isList_9 : decode cX3_isList 9 = .ok (.iconst 1, 1) := by decide +kernel
theorem dX3_isList_10 : decode cX3_isList 10 = .ok (.goto 4, 3) := by decide +kernel
theorem dX3_isList_13 : decode cX3_isList 13 = .ok (.iconst 0, 1) := by decide +kernel
theorem dX3_isList_14 : decode cX3_isList 14 = .ok (.ireturn, 1) := by decide +kernel
theorem dX3_isHeld_0 : decode cX3_isHeld 0 = .ok (.aload_n 0, 1) := by decide +kernel
theorem dX3_isHeld_1 : decode cX3_isHeld 1 = .ok (.getfield 14, 3) := by decide +kernel
theorem dX3_isHeld_4 : decode cX3_isHeld 4 = .ok (.iload_n 1, 1) := by decide +kernel
theorem dX3_isHeld_5 : decode cX3_isHeld 5 = .ok (.invokevirtual 26, 3) := by decide +kernel
theorem dX3_isHeld_8 : decode cX3_isHeld 8 = .ok (.iconst (-1), 1) := by decide +kernel
theorem dX3_isHeld_9 : decode cX3_isHeld 9 = .ok (.if_icmp .eq 7, 3) := by decide +kernel
theorem dX3_isHeld_12 : decode cX3_isHeld 12 = .ok (.iconst 1, 1) := by decide +kernel
theorem dX3_isHeld_13 : decode cX3_isHeld 13 = .ok (.goto 4, 3) := by decide +kernel
theorem dX3_isHeld_16 : decode cX3_isHeld 16 = .ok (.iconst 0, 1) := by decide +kernel
theorem dX3_isHeld_17 : decode cX3_isHeld 17 = .ok (.ireturn, 1) := by decide +kernel
theorem dX3_hasPlace_0 : decode cX3_hasPlace 0 = .ok (.iload_n 2, 1) := by decide +kernel
theorem dX3_hasPlace_1 : decode cX3_hasPlace 1 = .ok (.ifCond .lt 19, 3) := by decide +kernel
theorem dX3_hasPlace_4 : decode cX3_hasPlace 4 = .ok (.iload_n 2, 1) := by decide +kernel
theorem dX3_hasPlace_5 : decode cX3_hasPlace 5 = .ok (.aload_n 0, 1) := by decide +kernel
theorem dX3_hasPlace_6 : decode cX3_hasPlace 6 = .ok (.getfield 14, 3) := by decide +kernel
theorem dX3_hasPlace_9 : decode cX3_hasPlace 9 = .ok (.iload_n 1, 1) := by decide +kernel
theorem dX3_hasPlace_10 : decode cX3_hasPlace 10 = .ok (.invokevirtual 26, 3) := by decide +kernel
theorem dX3_hasPlace_13 : decode cX3_hasPlace 13 = .ok (.if_icmp .ge 7, 3) := by decide +kernel
theorem dX3_hasPlace_16 : decode cX3_hasPlace 16 = .ok (.iconst 1, 1) := by decide +kernel
theorem dX3_hasPlace_17 : decode cX3_hasPlace 17 = .ok (.goto 4, 3) := by decide +kernel
theorem dX3_hasPlace_20 : decode cX3_hasPlace 20 = .ok (.iconst 0, 1) := by decide +kernel
theorem dX3_hasPlace_21 : decode cX3_hasPlace 21 = .ok (.ireturn, 1) := by decide +kernel
theorem dX3_hold_0 : decode cX3_hold 0 = .ok (.aload_n 0, 1) := by decide +kernel
theorem dX3_hold_1 : decode cX3_hold 1 = .ok (.getfield 14, 3) := by decide +kernel
theorem dX3_hold_4 : decode cX3_hold 4 = .ok (.iload_n 1, 1) := by decide +kernel
theorem dX3_hold_5 : decode cX3_hold 5 = .ok (.iload_n 2, 1) := by decide +kernel
theorem dX3_hold_6 : decode cX3_hold 6 = .ok (.invokevirtual 30, 3) := by decide +kernel
theorem dX3_hold_9 : decode cX3_hold 9 = .ok (.iconst 0, 1) := by decide +kernel
theorem dX3_hold_10 : decode cX3_hold 10 = .ok (.istore_n 3, 1) := by decide +kernel
theorem dX3_hold_11 : decode cX3_hold 11 = .ok (.iload_n 3, 1) := by decide +kernel
theorem dX3_hold_12 : decode cX3_hold 12 = .ok (.iload_n 2, 1) := by decide +kernel
theorem dX3_hold_13 : decode cX3_hold 13 = .ok (.if_icmp .ge 16, 3) := by decide +kernel
theorem dX3_hold_16 : decode cX3_hold 16 = .ok (.aload_n 0, 1) := by decide +kernel
theorem dX3_hold_17 : decode cX3_hold 17 = .ok (.iload_n 1, 1) := by decide +kernel
theorem dX3_hold_18 : decode cX3_hold 18 = .ok (.iload_n 3, 1) := by decide +kernel
theorem dX3_hold_19 : decode cX3_hold 19 = .ok (.iconst 0, 1) := by decide +kernel
theorem dX3_hold_20 : decode cX3_hold 20 = .ok (.invokevirtual 34, 3) := by decide +kernel
theorem dX3_hold_23 : decode cX3_hold 23 = .ok (.iinc 3 1, 3) := by decide +kernel
theorem dX3_hold_26 : decode cX3_hold 26 = .ok (.goto (-15), 3) := by decide +kernel
theorem dX3_hold_29 : decode cX3_hold 29 = .ok (.return_, 1) := by decide +kernel
theorem dX3_valueAt_0 : decode cX3_valueAt 0 = .ok (.aload_n 0, 1) := by decide +kernel
theorem dX3_valueAt_1 : decode cX3_valueAt 1 = .ok (.getfield 20, 3) := by decide +kernel
theorem dX3_valueAt_4 : decode cX3_valueAt 4 = .ok (.iload_n 1, 1) := by decide +kernel
theorem dX3_valueAt_5 : decode cX3_valueAt 5 = .ok (.bipush 20, 2) := by decide +kernel
theorem dX3_valueAt_7 : decode cX3_valueAt 7 = .ok (.imul, 1) := by decide +kernel
theorem dX3_valueAt_8 : decode cX3_valueAt 8 = .ok (.iload_n 2, 1) := by decide +kernel
theorem dX3_valueAt_9 : decode cX3_valueAt 9 = .ok (.iadd, 1) := by decide +kernel
theorem dX3_valueAt_10 : decode cX3_valueAt 10 = .ok (.invokevirtual 26, 3) := by decide +kernel
theorem dX3_valueAt_13 : decode cX3_valueAt 13 = .ok (.ireturn, 1) := by decide +kernel
theorem dX3_putAt_0 : decode cX3_putAt 0 = .ok (.aload_n 0, 1) := by decide +kernel
theorem dX3_putAt_1 : decode cX3_putAt 1 = .ok (.getfield 20, 3) := by decide +kernel
theorem dX3_putAt_4 : decode cX3_putAt 4 = .ok (.iload_n 1, 1) := by decide +kernel
theorem dX3_putAt_5 : decode cX3_putAt 5 = .ok (.bipush 20, 2) := by decide +kernel
theorem dX3_putAt_7 : decode cX3_putAt 7 = .ok (.imul, 1) := by decide +kernel
theorem dX3_putAt_8 : decode cX3_putAt 8 = .ok (.iload_n 2, 1) := by decide +kernel
theorem dX3_putAt_9 : decode cX3_putAt 9 = .ok (.iadd, 1) := by decide +kernel
theorem dX3_putAt_10 : decode cX3_putAt 10 = .ok (.iload_n 3, 1) := by decide +kernel
theorem dX3_putAt_11 : decode cX3_putAt 11 = .ok (.invokevirtual 30, 3) := by decide +kernel
theorem dX3_putAt_14 : decode cX3_putAt 14 = .ok (.return_, 1) := by decide +kernel
theorem dX4_init_0 : decode cX4_init 0 = .ok (.aload_n 0, 1) := by decide +kernel
theorem dX4_init_1 : decode cX4_init 1 = .ok (.invokespecial 3, 3) := by decide +kernel
theorem dX4_init_4 : decode cX4_init 4 = .ok (.aload_n 0, 1) := by decide +kernel
theorem dX4_init_5 : decode cX4_init 5 = .ok (.new 9, 3) := by decide +kernel
theorem dX4_init_8 : decode cX4_init 8 = .ok (.dup, 1) := by decide +kernel
theorem dX4_init_9 : decode cX4_init 9 = .ok (.bipush 108, 2) := by decide +kernel
theorem dX4_init_11 : decode cX4_init 11 = .ok (.invokespecial 11, 3) := by decide +kernel
theorem dX4_init_14 : decode cX4_init 14 = .ok (.putfield 14, 3) := by decide +kernel
theorem dX4_init_17 : decode cX4_init 17 = .ok (.aload_n 0, 1) := by decide +kernel
theorem dX4_init_18 : decode cX4_init 18 = .ok (.new 9, 3) := by decide +kernel
theorem dX4_init_21 : decode cX4_init 21 = .ok (.dup, 1) := by decide +kernel
theorem dX4_init_22 : decode cX4_init 22 = .ok (.bipush 12, 2) := by decide +kernel
theorem dX4_init_24 : decode cX4_init 24 = .ok (.invokespecial 11, 3) := by decide +kernel
theorem dX4_init_27 : decode cX4_init 27 = .ok (.putfield 20, 3) := by decide +kernel
theorem dX4_init_30 : decode cX4_init 30 = .ok (.aload_n 0, 1) := by decide +kernel
theorem dX4_init_31 : decode cX4_init 31 = .ok (.new 9, 3) := by decide +kernel
theorem dX4_init_34 : decode cX4_init 34 = .ok (.dup, 1) := by decide +kernel
theorem dX4_init_35 : decode cX4_init 35 = .ok (.bipush 12, 2) := by decide +kernel
theorem dX4_init_37 : decode cX4_init 37 = .ok (.invokespecial 11, 3) := by decide +kernel
theorem dX4_init_40 : decode cX4_init 40 = .ok (.putfield 23, 3) := by decide +kernel
theorem dX4_init_43 : decode cX4_init 43 = .ok (.aload_n 0, 1) := by decide +kernel
theorem dX4_init_44 : decode cX4_init 44 = .ok (.new 9, 3) := by decide +kernel
theorem dX4_init_47 : decode cX4_init 47 = .ok (.dup, 1) := by decide +kernel
theorem dX4_init_48 : decode cX4_init 48 = .ok (.bipush 12, 2) := by decide +kernel
theorem dX4_init_50 : decode cX4_init 50 = .ok (.invokespecial 11, 3) := by decide +kernel
theorem dX4_init_53 : decode cX4_init 53 = .ok (.putfield 26, 3) := by decide +kernel
theorem dX4_init_56 : decode cX4_init 56 = .ok (.aload_n 0, 1) := by decide +kernel
theorem dX4_init_57 : decode cX4_init 57 = .ok (.new 9, 3) := by decide +kernel
theorem dX4_init_60 : decode cX4_init 60 = .ok (.dup, 1) := by decide +kernel
theorem dX4_init_61 : decode cX4_init 61 = .ok (.bipush 12, 2) := by decide +kernel
theorem dX4_init_63 : decode cX4_init 63 = .ok (.invokespecial 11, 3) := by decide +kernel
theorem dX4_init_66 : decode cX4_init 66 = .ok (.putfield 29, 3) := by decide +kernel
theorem dX4_init_69 : decode cX4_init 69 = .ok (.aload_n 0, 1) := by decide +kernel
theorem dX4_init_70 : decode cX4_init 70 = .ok (.new 9, 3) := by decide +kernel
theorem dX4_init_73 : decode cX4_init 73 = .ok (.dup, 1) := by decide +kernel
theorem dX4_init_74 : decode cX4_init 74 = .ok (.bipush 12, 2) := by decide +kernel
theorem dX4_init_76 : decode cX4_init 76 = .ok (.invokespecial 11, 3) := by decide +kernel
theorem dX4_init_79 : decode cX4_init 79 = .ok (.putfield 32, 3) := by decide +kernel
theorem dX4_init_82 : decode cX4_init 82 = .ok (.aload_n 0, 1) := by decide +kernel
theorem dX4_init_83 : decode cX4_init 83 = .ok (.new 9, 3) := by decide +kernel
theorem dX4_init_86 : decode cX4_init 86 = .ok (.dup, 1) := by decide +kernel
theorem dX4_init_87 : decode cX4_init 87 = .ok (.sipush 144, 3) := by decide +kernel
theorem dX4_init_90 : decode cX4_init 90 = .ok (.invokespecial 11, 3) := by decide +kernel
theorem dX4_init_93 : decode cX4_init 93 = .ok (.putfield 35, 3) := by decide +kernel
theorem dX4_init_96 : decode cX4_init 96 = .ok (.aload_n 0, 1) := by decide +kernel
theorem dX4_init_97 : decode cX4_init 97 = .ok (.new 9, 3) := by decide +kernel
theorem dX4_init_100 : decode cX4_init 100 = .ok (.dup, 1) := by decide +kernel
theorem dX4_init_101 : decode cX4_init 101 = .ok (.sipush 144, 3) := by decide +kernel
theorem dX4_init_104 : decode cX4_init 104 = .ok (.invokespecial 11, 3) := by decide +kernel
theorem dX4_init_107 : decode cX4_init 107 = .ok (.putfield 38, 3) := by decide +kernel
theorem dX4_init_110 : decode cX4_init 110 = .ok (.aload_n 0, 1) := by decide +kernel
theorem dX4_init_111 : decode cX4_init 111 = .ok (.new 9, 3) := by decide +kernel
theorem dX4_init_114 : decode cX4_init 114 = .ok (.dup, 1) := by decide +kernel
theorem dX4_init_115 : decode cX4_init 115 = .ok (.bipush 12, 2) := by decide +kernel
theorem dX4_init_117 : decode cX4_init 117 = .ok (.invokespecial 11, 3) := by decide +kernel
theorem dX4_init_120 : decode cX4_init 120 = .ok (.putfield 41, 3) := by decide +kernel
theorem dX4_init_123 : decode cX4_init 123 = .ok (.aload_n 0, 1) := by decide +kernel
theorem dX4_init_124 : decode cX4_init 124 = .ok (.aload_n 1, 1) := by decide +kernel
theorem dX4_init_125 : decode cX4_init 125 = .ok (.putfield 44, 3) := by decide +kernel
theorem dX4_init_128 : decode cX4_init 128 = .ok (.return_, 1) := by decide +kernel
theorem dX4_tieOf_0 : decode cX4_tieOf 0 = .ok (.aload_n 0, 1) := by decide +kernel
theorem dX4_tieOf_1 : decode cX4_tieOf 1 = .ok (.getfield 14, 3) := by decide +kernel
theorem dX4_tieOf_4 : decode cX4_tieOf 4 = .ok (.iload_n 1, 1) := by decide +kernel
theorem dX4_tieOf_5 : decode cX4_tieOf 5 = .ok (.bipush 9, 2) := by decide +kernel
theorem dX4_tieOf_7 : decode cX4_tieOf 7 = .ok (.imul, 1) := by decide +kernel
theorem dX4_tieOf_8 : decode cX4_tieOf 8 = .ok (.iload_n 2, 1) := by decide +kernel
theorem dX4_tieOf_9 : decode cX4_tieOf 9 = .ok (.iadd, 1) := by decide +kernel
theorem dX4_tieOf_10 : decode cX4_tieOf 10 = .ok (.invokevirtual 48, 3) := by decide +kernel
theorem dX4_tieOf_13 : decode cX4_tieOf 13 = .ok (.ireturn, 1) := by decide +kernel
theorem dX4_addTie_0 : decode cX4_addTie 0 = .ok (.aload_n 0, 1) := by decide +kernel
theorem dX4_addTie_1 : decode cX4_addTie 1 = .ok (.getfield 14, 3) := by decide +kernel
theorem dX4_addTie_4 : decode cX4_addTie 4 = .ok (.iload_n 1, 1) := by decide +kernel
theorem dX4_addTie_5 : decode cX4_addTie 5 = .ok (.bipush 9, 2) := by decide +kernel
theorem dX4_addTie_7 : decode cX4_addTie 7 = .ok (.imul, 1) := by decide +kernel
theorem dX4_addTie_8 : decode cX4_addTie 8 = .ok (.iload_n 2, 1) := by decide +kernel
theorem dX4_addTie_9 : decode cX4_addTie 9 = .ok (.iadd, 1) := by decide +kernel
theorem dX4_addTie_10 : decode cX4_addTie 10 = .ok (.iload_n 3, 1) := by decide +kernel
theorem dX4_addTie_11 : decode cX4_addTie 11 = .ok (.invokevirtual 52, 3) := by decide +kernel
theorem dX4_addTie_14 : decode cX4_addTie 14 = .ok (.return_, 1) := by decide +kernel
theorem dX4_twoCell_0 : decode cX4_twoCell 0 = .ok (.iload_n 0, 1) := by decide +kernel
theorem dX4_twoCell_1 : decode cX4_twoCell 1 = .ok (.bipush 12, 2) := by decide +kernel
theorem dX4_twoCell_3 : decode cX4_twoCell 3 = .ok (.imul, 1) := by decide +kernel
theorem dX4_twoCell_4 : decode cX4_twoCell 4 = .ok (.iload_n 1, 1) := by decide +kernel
theorem dX4_twoCell_5 : decode cX4_twoCell 5 = .ok (.iadd, 1) := by decide +kernel
theorem dX4_twoCell_6 : decode cX4_twoCell 6 = .ok (.ireturn, 1) := by decide +kernel
theorem dX4_meetingOf_0 : decode cX4_meetingOf 0 = .ok (.aload_n 0, 1) := by decide +kernel
theorem dX4_meetingOf_1 : decode cX4_meetingOf 1 = .ok (.getfield 35, 3) := by decide +kernel
theorem dX4_meetingOf_4 : decode cX4_meetingOf 4 = .ok (.iload_n 1, 1) := by decide +kernel
theorem dX4_meetingOf_5 : decode cX4_meetingOf 5 = .ok (.iload_n 2, 1) := by decide +kernel
theorem dX4_meetingOf_6 : decode cX4_meetingOf 6 = .ok (.invokestatic 56, 3) := by decide +kernel
theorem dX4_meetingOf_9 : decode cX4_meetingOf 9 = .ok (.invokevirtual 48, 3) := by decide +kernel
theorem dX4_meetingOf_12 : decode cX4_meetingOf 12 = .ok (.ireturn, 1) := by decide +kernel
theorem dX4_haveMet_0 : decode cX4_haveMet 0 = .ok (.aload_n 0, 1) := by decide +kernel
theorem dX4_haveMet_1 : decode cX4_haveMet 1 = .ok (.iload_n 1, 1) := by decide +kernel
theorem dX4_haveMet_2 : decode cX4_haveMet 2 = .ok (.iload_n 2, 1) := by decide +kernel
theorem dX4_haveMet_3 : decode cX4_haveMet 3 = .ok (.invokevirtual 60, 3) := by decide +kernel
theorem dX4_haveMet_6 : decode cX4_haveMet 6 = .ok (.bipush (-5), 2) := by decide +kernel
theorem dX4_haveMet_8 : decode cX4_haveMet 8 = .ok (.if_icmp .eq 7, 3) := by decide +kernel
theorem dX4_haveMet_11 : decode cX4_haveMet 11 = .ok (.iconst 1, 1) := by decide +kernel
theorem dX4_haveMet_12 : decode cX4_haveMet 12 = .ok (.goto 4, 3) := by decide +kernel
theorem dX4_haveMet_15 : decode cX4_haveMet 15 = .ok (.iconst 0, 1) := by decide +kernel
theorem dX4_haveMet_16 : decode cX4_haveMet 16 = .ok (.ireturn, 1) := by decide +kernel
theorem dX4_madeAgainst_0 : decode cX4_madeAgainst 0 = .ok (.aload_n 0, 1) := by decide +kernel
theorem dX4_madeAgainst_1 : decode cX4_madeAgainst 1 = .ok (.getfield 38, 3) := by decide +kernel
theorem dX4_madeAgainst_4 : decode cX4_madeAgainst 4 = .ok (.iload_n 1, 1) := by decide +kernel
theorem dX4_madeAgainst_5 : decode cX4_madeAgainst 5 = .ok (.iload_n 2, 1) := by decide +kernel
theorem dX4_madeAgainst_6 : decode cX4_madeAgainst 6 = .ok (.invokestatic 56, 3) := by decide +kernel
theorem dX4_madeAgainst_9 : decode cX4_madeAgainst 9 = .ok (.invokevirtual 48, 3) := by decide +kernel
theorem dX4_madeAgainst_12 : decode cX4_madeAgainst 12 = .ok (.ireturn, 1) := by decide +kernel
theorem dX4_reckon_0 : decode cX4_reckon 0 = .ok (.aload_n 0, 1) := by decide +kernel
theorem dX4_reckon_1 : decode cX4_reckon 1 = .ok (.invokevirtual 63, 3) := by decide +kernel
theorem dX4_reckon_4 : decode cX4_reckon 4 = .ok (.iconst 0, 1) := by decide +kernel
theorem dX4_reckon_5 : decode cX4_reckon 5 = .ok (.istore_n 1, 1) := by decide +kernel
theorem dX4_reckon_6 : decode cX4_reckon 6 = .ok (.iload_n 1, 1) := by decide +kernel
theorem dX4_reckon_7 : decode cX4_reckon 7 = .ok (.aload_n 0, 1) := by decide +kernel
theorem dX4_reckon_8 : decode cX4_reckon 8 = .ok (.getfield 44, 3) := by decide +kernel
theorem dX4_reckon_11 : decode cX4_reckon 11 = .ok (.invokevirtual 66, 3) := by decide +kernel
theorem dX4_reckon_14 : decode cX4_reckon 14 = .ok (.if_icmp .ge 14, 3) := by decide +kernel
theorem dX4_reckon_17 : decode cX4_reckon 17 = .ok (.aload_n 0, 1) := by decide +kernel
theorem dX4_reckon_18 : decode cX4_reckon 18 = .ok (.iload_n 1, 1) := by decide +kernel
theorem dX4_reckon_19 : decode cX4_reckon 19 = .ok (.invokevirtual 72, 3) := by decide +kernel
theorem dX4_reckon_22 : decode cX4_reckon 22 = .ok (.iinc 1 1, 3) := by decide +kernel
theorem dX4_reckon_25 : decode cX4_reckon 25 = .ok (.goto (-19), 3) := by decide +kernel
theorem dX4_reckon_28 : decode cX4_reckon 28 = .ok (.iconst 0, 1) := by decide +kernel
theorem dX4_reckon_29 : decode cX4_reckon 29 = .ok (.istore_n 1, 1) := by decide +kernel
theorem dX4_reckon_30 : decode cX4_reckon 30 = .ok (.iload_n 1, 1) := by decide +kernel
theorem dX4_reckon_31 : decode cX4_reckon 31 = .ok (.aload_n 0, 1) := by decide +kernel
theorem dX4_reckon_32 : decode cX4_reckon 32 = .ok (.getfield 44, 3) := by decide +kernel
theorem dX4_reckon_35 : decode cX4_reckon 35 = .ok (.getfield 75, 3) := by decide +kernel
theorem dX4_reckon_38 : decode cX4_reckon 38 = .ok (.if_icmp .ge 32, 3) := by decide +kernel
theorem dX4_reckon_41 : decode cX4_reckon 41 = .ok (.aload_n 0, 1) := by decide +kernel
theorem dX4_reckon_42 : decode cX4_reckon 42 = .ok (.iload_n 1, 1) := by decide +kernel
theorem dX4_reckon_43 : decode cX4_reckon 43 = .ok (.invokevirtual 79, 3) := by decide +kernel
theorem dX4_reckon_46 : decode cX4_reckon 46 = .ok (.aload_n 0, 1) := by decide +kernel
theorem dX4_reckon_47 : decode cX4_reckon 47 = .ok (.iload_n 1, 1) := by decide +kernel
theorem dX4_reckon_48 : decode cX4_reckon 48 = .ok (.bipush 8, 2) := by decide +kernel
theorem dX4_reckon_50 : decode cX4_reckon 50 = .ok (.aload_n 0, 1) := by decide +kernel
theorem dX4_reckon_51 : decode cX4_reckon 51 = .ok (.getfield 44, 3) := by decide +kernel
theorem dX4_reckon_54 : decode cX4_reckon 54 = .ok (.getfield 82, 3) := by decide +kernel
theorem dX4_reckon_57 : decode cX4_reckon 57 = .ok (.iload_n 1, 1) := by decide +kernel
theorem dX4_reckon_58 : decode cX4_reckon 58 = .ok (.invokevirtual 48, 3) := by decide +kernel
theorem dX4_reckon_61 : decode cX4_reckon 61 = .ok (.invokevirtual 85, 3) := by decide +kernel
theorem dX4_reckon_64 : decode cX4_reckon 64 = .ok (.iinc 1 1, 3) := by decide +kernel
theorem dX4_reckon_67 : decode cX4_reckon 67 = .ok (.goto (-37), 3) := by decide +kernel
theorem dX4_reckon_70 : decode cX4_reckon 70 = .ok (.aload_n 0, 1) := by decide +kernel
theorem dX4_reckon_71 : decode cX4_reckon 71 = .ok (.invokevirtual 89, 3) := by decide +kernel
theorem dX4_reckon_74 : decode cX4_reckon 74 = .ok (.return_, 1) := by decide +kernel
theorem dX4_wipe_0 : decode cX4_wipe 0 = .ok (.aload_n 0, 1) := by decide +kernel
theorem dX4_wipe_1 : decode cX4_wipe 1 = .ok (.getfield 14, 3) := by decide +kernel
theorem dX4_wipe_4 : decode cX4_wipe 4 = .ok (.iconst 0, 1) := by decide +kernel
theorem dX4_wipe_5 : decode cX4_wipe 5 = .ok (.invokevirtual 92, 3) := by decide +kernel
theorem dX4_wipe_8 : decode cX4_wipe 8 = .ok (.aload_n 0, 1) := by decide +kernel
theorem dX4_wipe_9 : decode cX4_wipe 9 = .ok (.getfield 20, 3) := by decide +kernel
theorem dX4_wipe_12 : decode cX4_wipe 12 = .ok (.iconst 0, 1) := by decide +kernel
theorem dX4_wipe_13 : decode cX4_wipe 13 = .ok (.invokevirtual 92, 3) := by decide +kernel
theorem dX4_wipe_16 : decode cX4_wipe 16 = .ok (.aload_n 0, 1) := by decide +kernel
theorem dX4_wipe_17 : decode cX4_wipe 17 = .ok (.getfield 23, 3) := by decide +kernel
theorem dX4_wipe_20 : decode cX4_wipe 20 = .ok (.iconst 0, 1) := by decide +kernel
theorem dX4_wipe_21 : decode cX4_wipe 21 = .ok (.invokevirtual 92, 3) := by decide +kernel
theorem dX4_wipe_24 : decode cX4_wipe 24 = .ok (.aload_n 0, 1) := by decide +kernel
theorem dX4_wipe_25 : decode cX4_wipe 25 = .ok (.getfield 26, 3) := by decide +kernel
theorem dX4_wipe_28 : decode cX4_wipe 28 = .ok (.bipush (-5), 2) := by decide +kernel
theorem dX4_wipe_30 : decode cX4_wipe 30 = .ok (.invokevirtual 92, 3) := by decide +kernel
theorem dX4_wipe_33 : decode cX4_wipe 33 = .ok (.aload_n 0, 1) := by decide +kernel
theorem dX4_wipe_34 : decode cX4_wipe 34 = .ok (.getfield 29, 3) := by decide +kernel
theorem dX4_wipe_37 : decode cX4_wipe 37 = .ok (.iconst 0, 1) := by decide +kernel
theorem dX4_wipe_38 : decode cX4_wipe 38 = .ok (.invokevirtual 92, 3) := by decide +kernel
theorem dX4_wipe_41 : decode cX4_wipe 41 = .ok (.aload_n 0, 1) := by decide +kernel
theorem dX4_wipe_42 : decode cX4_wipe 42 = .ok (.getfield 32, 3) := by decide +kernel
theorem dX4_wipe_45 : decode cX4_wipe 45 = .ok (.iconst 0, 1) := by decide +kernel
theorem dX4_wipe_46 : decode cX4_wipe 46 = .ok (.invokevirtual 92, 3) := by decide +kernel
theorem dX4_wipe_49 : decode cX4_wipe 49 = .ok (.aload_n 0, 1) := by decide +kernel
theorem dX4_wipe_50 : decode cX4_wipe 50 = .ok (.getfield 35, 3) := by decide +kernel
theorem dX4_wipe_53 : decode cX4_wipe 53 = .ok (.bipush (-5), 2) := by decide +kernel
theorem dX4_wipe_55 : decode cX4_wipe 55 = .ok (.invokevirtual 92, 3) := by decide +kernel
theorem dX4_wipe_58 : decode cX4_wipe 58 = .ok (.aload_n 0, 1) := by decide +kernel
theorem dX4_wipe_59 : decode cX4_wipe 59 = .ok (.getfield 38, 3) := by decide +kernel
theorem dX4_wipe_62 : decode cX4_wipe 62 = .ok (.iconst 0, 1) := by decide +kernel
theorem dX4_wipe_63 : decode cX4_wipe 63 = .ok (.invokevirtual 92, 3) := by decide +kernel
theorem dX4_wipe_66 : decode cX4_wipe 66 = .ok (.return_, 1) := by decide +kernel
theorem dX4_countRound_0 : decode cX4_countRound 0 = .ok (.iconst 0, 1) := by decide +kernel
theorem dX4_countRound_1 : decode cX4_countRound 1 = .ok (.istore_n 2, 1) := by decide +kernel
theorem dX4_countRound_2 : decode cX4_countRound 2 = .ok (.iload_n 2, 1) := by decide +kernel
theorem dX4_countRound_3 : decode cX4_countRound 3 = .ok (.aload_n 0, 1) := by decide +kernel
theorem dX4_countRound_4 : decode cX4_countRound 4 = .ok (.getfield 44, 3) := by decide +kernel
theorem dX4_countRound_7 : decode cX4_countRound 7 = .ok (.getfield 95, 3) := by decide +kernel
theorem dX4_countRound_10 : decode cX4_countRound 10 = .ok (.iload_n 1, 1) := by decide +kernel
theorem dX4_countRound_11 : decode cX4_countRound 11 = .ok (.invokevirtual 48, 3) := by decide +kernel
theorem dX4_countRound_14 : decode cX4_countRound 14 = .ok (.if_icmp .ge 49, 3) := by decide +kernel
theorem dX4_countRound_17 : decode cX4_countRound 17 = .ok (.iload_n 1, 1) := by decide +kernel
theorem dX4_countRound_18 : decode cX4_countRound 18 = .ok (.iload_n 2, 1) := by decide +kernel
theorem dX4_countRound_19 : decode cX4_countRound 19 = .ok (.invokestatic 98, 3) := by decide +kernel
theorem dX4_countRound_22 : decode cX4_countRound 22 = .ok (.istore_n 3, 1) := by decide +kernel
theorem dX4_countRound_23 : decode cX4_countRound 23 = .ok (.aload_n 0, 1) := by decide +kernel
theorem dX4_countRound_24 : decode cX4_countRound 24 = .ok (.iload_n 1, 1) := by decide +kernel
theorem dX4_countRound_25 : decode cX4_countRound 25 = .ok (.iload_n 2, 1) := by decide +kernel
theorem dX4_countRound_26 : decode cX4_countRound 26 = .ok (.aload_n 0, 1) := by decide +kernel
theorem dX4_countRound_27 : decode cX4_countRound 27 = .ok (.getfield 44, 3) := by decide +kernel
theorem dX4_countRound_30 : decode cX4_countRound 30 = .ok (.getfield 101, 3) := by decide +kernel
theorem dX4_countRound_33 : decode cX4_countRound 33 = .ok (.iload_n 3, 1) := by decide +kernel
theorem dX4_countRound_34 : decode cX4_countRound 34 = .ok (.invokevirtual 48, 3) := by decide +kernel
theorem dX4_countRound_37 : decode cX4_countRound 37 = .ok (.invokevirtual 104, 3) := by decide +kernel
theorem dX4_countRound_40 : decode cX4_countRound 40 = .ok (.aload_n 0, 1) := by decide +kernel
theorem dX4_countRound_41 : decode cX4_countRound 41 = .ok (.iload_n 1, 1) := by decide +kernel
theorem dX4_countRound_42 : decode cX4_countRound 42 = .ok (.iload_n 2, 1) := by decide +kernel
theorem dX4_countRound_43 : decode cX4_countRound 43 = .ok (.aload_n 0, 1) := by decide +kernel
theorem dX4_countRound_44 : decode cX4_countRound 44 = .ok (.getfield 44, 3) := by decide +kernel
theorem dX4_countRound_47 : decode cX4_countRound 47 = .ok (.getfield 107, 3) := by decide +kernel
theorem dX4_countRound_50 : decode cX4_countRound 50 = .ok (.iload_n 3, 1) := by decide +kernel
theorem dX4_countRound_51 : decode cX4_countRound 51 = .ok (.invokevirtual 48, 3) := by decide +kernel
theorem dX4_countRound_54 : decode cX4_countRound 54 = .ok (.invokevirtual 104, 3) := by decide +kernel
theorem dX4_countRound_57 : decode cX4_countRound 57 = .ok (.iinc 2 1, 3) := by decide +kernel
theorem dX4_countRound_60 : decode cX4_countRound 60 = .ok (.goto (-58), 3) := by decide +kernel
theorem dX4_countRound_63 : decode cX4_countRound 63 = .ok (.aload_n 0, 1) := by decide +kernel
theorem dX4_countRound_64 : decode cX4_countRound 64 = .ok (.getfield 44, 3) := by decide +kernel
theorem dX4_countRound_67 : decode cX4_countRound 67 = .ok (.getfield 110, 3) := by decide +kernel
theorem dX4_countRound_70 : decode cX4_countRound 70 = .ok (.iload_n 1, 1) := by decide +kernel
theorem dX4_countRound_71 : decode cX4_countRound 71 = .ok (.invokevirtual 48, 3) := by decide +kernel
theorem dX4_countRound_74 : decode cX4_countRound 74 = .ok (.istore_n 2, 1) := by decide +kernel
theorem dX4_countRound_75 : decode cX4_countRound 75 = .ok (.iload_n 2, 1) := by decide +kernel
theorem dX4_countRound_76 : decode cX4_countRound 76 = .ok (.bipush (-5), 2) := by decide +kernel
theorem dX4_countRound_78 : decode cX4_countRound 78 = .ok (.if_icmp .eq 19, 3) := by decide +kernel
theorem dX4_countRound_81 : decode cX4_countRound 81 = .ok (.aload_n 0, 1) := by decide +kernel
theorem dX4_countRound_82 : decode cX4_countRound 82 = .ok (.getfield 29, 3) := by decide +kernel
theorem dX4_countRound_85 : decode cX4_countRound 85 = .ok (.iload_n 2, 1) := by decide +kernel
theorem dX4_countRound_86 : decode cX4_countRound 86 = .ok (.iconst 1, 1) := by decide +kernel
theorem dX4_countRound_87 : decode cX4_countRound 87 = .ok (.invokevirtual 52, 3) := by decide +kernel
theorem dX4_countRound_90 : decode cX4_countRound 90 = .ok (.aload_n 0, 1) := by decide +kernel
theorem dX4_countRound_91 : decode cX4_countRound 91 = .ok (.iload_n 2, 1) := by decide +kernel
theorem dX4_countRound_92 : decode cX4_countRound 92 = .ok (.iconst 0, 1) := by decide +kernel
theorem dX4_countRound_93 : decode cX4_countRound 93 = .ok (.iconst 2, 1) := by decide +kernel
theorem dX4_countRound_94 : decode cX4_countRound 94 = .ok (.invokevirtual 85, 3) := by decide +kernel
theorem dX4_countRound_97 : decode cX4_countRound 97 = .ok (.iconst 0, 1) := by decide +kernel
theorem dX4_countRound_98 : decode cX4_countRound 98 = .ok (.istore_n 3, 1) := by decide +kernel
theorem dX4_countRound_99 : decode cX4_countRound 99 = .ok (.iload_n 3, 1) := by decide +kernel
theorem dX4_countRound_100 : decode cX4_countRound 100 = .ok (.aload_n 0, 1) := by decide +kernel
theorem dX4_countRound_101 : decode cX4_countRound 101 = .ok (.getfield 44, 3) := by decide +kernel
theorem dX4_countRound_104 : decode cX4_countRound 104 = .ok (.getfield 75, 3) := by decide +kernel
theorem dX4_countRound_107 : decode cX4_countRound 107 = .ok (.if_icmp .ge 22, 3) := by decide +kernel
theorem dX4_countRound_110 : decode cX4_countRound 110 = .ok (.aload_n 0, 1) := by decide +kernel
theorem dX4_countRound_111 : decode cX4_countRound 111 = .ok (.iload_n 3, 1) := by decide +kernel
theorem dX4_countRound_112 : decode cX4_countRound 112 = .ok (.bipush 6, 2) := by decide +kernel
theorem dX4_countRound_114 : decode cX4_countRound 114 = .ok (.aload_n 0, 1) := by decide +kernel
theorem dX4_countRound_115 : decode cX4_countRound 115 = .ok (.iload_n 3, 1) := by decide +kernel
theorem dX4_countRound_116 : decode cX4_countRound 116 = .ok (.iconst 0, 1) := by decide +kernel
theorem dX4_countRound_117 : decode cX4_countRound 117 = .ok (.invokevirtual 111, 3) := by decide +kernel
theorem dX4_countRound_120 : decode cX4_countRound 120 = .ok (.invokevirtual 85, 3) := by decide +kernel
theorem dX4_countRound_123 : decode cX4_countRound 123 = .ok (.iinc 3 1, 3) := by decide +kernel
theorem dX4_countRound_126 : decode cX4_countRound 126 = .ok (.goto (-27), 3) := by decide +kernel
theorem dX4_countRound_129 : decode cX4_countRound 129 = .ok (.return_, 1) := by decide +kernel
theorem dX4_countSide_0 : decode cX4_countSide 0 = .ok (.aload_n 0, 1) := by decide +kernel
theorem dX4_countSide_1 : decode cX4_countSide 1 = .ok (.getfield 44, 3) := by decide +kernel
theorem dX4_countSide_4 : decode cX4_countSide 4 = .ok (.iload_n 1, 1) := by decide +kernel
theorem dX4_countSide_5 : decode cX4_countSide 5 = .ok (.iload_n 2, 1) := by decide +kernel
theorem dX4_countSide_6 : decode cX4_countSide 6 = .ok (.iload_n 3, 1) := by decide +kernel
theorem dX4_countSide_7 : decode cX4_countSide 7 = .ok (.invokevirtual 114, 3) := by decide +kernel
theorem dX4_countSide_10 : decode cX4_countSide 10 = .ok (.istore 4, 2) := by decide +kernel
theorem dX4_countSide_12 : decode cX4_countSide 12 = .ok (.aload_n 0, 1) := by decide +kernel
theorem dX4_countSide_13 : decode cX4_countSide 13 = .ok (.iload_n 3, 1) := by decide +kernel
theorem dX4_countSide_14 : decode cX4_countSide 14 = .ok (.iconst 0, 1) := by decide +kernel
theorem dX4_countSide_15 : decode cX4_countSide 15 = .ok (.iload 4, 2) := by decide +kernel
theorem dX4_countSide_17 : decode cX4_countSide 17 = .ok (.invokestatic 118, 3) := by decide +kernel
theorem dX4_countSide_20 : decode cX4_countSide 20 = .ok (.invokevirtual 85, 3) := by decide +kernel
theorem dX4_countSide_23 : decode cX4_countSide 23 = .ok (.iload 4, 2) := by decide +kernel
theorem dX4_countSide_25 : decode cX4_countSide 25 = .ok (.iconst 4, 1) := by decide +kernel
theorem dX4_countSide_26 : decode cX4_countSide 26 = .ok (.if_icmp .ne 12, 3) := by decide +kernel
theorem dX4_countSide_29 : decode cX4_countSide 29 = .ok (.aload_n 0, 1) := by decide +kernel
theorem dX4_countSide_30 : decode cX4_countSide 30 = .ok (.getfield 32, 3) := by decide +kernel
theorem dX4_countSide_33 : decode cX4_countSide 33 = .ok (.iload_n 3, 1) := by decide +kernel
theorem dX4_countSide_34 : decode cX4_countSide 34 = .ok (.iconst 1, 1) := by decide +kernel
theorem dX4_countSide_35 : decode cX4_countSide 35 = .ok (.invokevirtual 52, 3) := by decide +kernel
theorem dX4_countSide_38 : decode cX4_countSide 38 = .ok (.iload 4, 2) := by decide +kernel
theorem dX4_countSide_40 : decode cX4_countSide 40 = .ok (.invokestatic 121, 3) := by decide +kernel
theorem dX4_countSide_43 : decode cX4_countSide 43 = .ok (.ifCond .eq 10, 3) := by decide +kernel
theorem dX4_countSide_46 : decode cX4_countSide 46 = .ok (.aload_n 0, 1) := by decide +kernel
theorem dX4_countSide_47 : decode cX4_countSide 47 = .ok (.iload_n 1, 1) := by decide +kernel
theorem dX4_countSide_48 : decode cX4_countSide 48 = .ok (.iload_n 2, 1) := by decide +kernel
theorem dX4_countSide_49 : decode cX4_countSide 49 = .ok (.iload_n 3, 1) := by decide +kernel
theorem dX4_countSide_50 : decode cX4_countSide 50 = .ok (.invokevirtual 125, 3) := by decide +kernel
theorem dX4_countSide_53 : decode cX4_countSide 53 = .ok (.return_, 1) := by decide +kernel
theorem dX4_countPlayed_0 : decode cX4_countPlayed 0 = .ok (.aload_n 0, 1) := by decide +kernel
theorem dX4_countPlayed_1 : decode cX4_countPlayed 1 = .ok (.getfield 44, 3) := by decide +kernel
theorem dX4_countPlayed_4 : decode cX4_countPlayed 4 = .ok (.iload_n 1, 1) := by decide +kernel
theorem dX4_countPlayed_5 : decode cX4_countPlayed 5 = .ok (.iload_n 2, 1) := by decide +kernel
theorem dX4_countPlayed_6 : decode cX4_countPlayed 6 = .ok (.iload_n 3, 1) := by decide +kernel
theorem dX4_countPlayed_7 : decode cX4_countPlayed 7 = .ok (.invokevirtual 114, 3) := by decide +kernel
theorem dX4_countPlayed_10 : decode cX4_countPlayed 10 = .ok (.istore 4, 2) := by decide +kernel
theorem dX4_countPlayed_12 : decode cX4_countPlayed 12 = .ok (.aload_n 0, 1) := by decide +kernel
theorem dX4_countPlayed_13 : decode cX4_countPlayed 13 = .ok (.getfield 44, 3) := by decide +kernel
theorem dX4_countPlayed_16 : decode cX4_countPlayed 16 = .ok (.iload_n 1, 1) := by decide +kernel
theorem dX4_countPlayed_17 : decode cX4_countPlayed 17 = .ok (.iload_n 2, 1) := by decide +kernel
theorem dX4_countPlayed_18 : decode cX4_countPlayed 18 = .ok (.iload_n 3, 1) := by decide +kernel
theorem dX4_countPlayed_19 : decode cX4_countPlayed 19 = .ok (.invokevirtual 128, 3) := by decide +kernel
theorem dX4_countPlayed_22 : decode cX4_countPlayed 22 = .ok (.istore 5, 2) := by decide +kernel
theorem dX4_countPlayed_24 : decode cX4_countPlayed 24 = .ok (.iload_n 3, 1) := by decide +kernel
theorem dX4_countPlayed_25 : decode cX4_countPlayed 25 = .ok (.aload_n 0, 1) := by decide +kernel
theorem dX4_countPlayed_26 : decode cX4_countPlayed 26 = .ok (.getfield 44, 3) := by decide +kernel
theorem dX4_countPlayed_29 : decode cX4_countPlayed 29 = .ok (.iload_n 1, 1) := by decide +kernel
theorem dX4_countPlayed_30 : decode cX4_countPlayed 30 = .ok (.iload_n 2, 1) := by decide +kernel
theorem dX4_countPlayed_31 : decode cX4_countPlayed 31 = .ok (.iload_n 3, 1) := by decide +kernel
theorem dX4_countPlayed_32 : decode cX4_countPlayed 32 = .ok (.invokevirtual 131, 3) := by decide +kernel
theorem dX4_countPlayed_35 : decode cX4_countPlayed 35 = .ok (.invokestatic 56, 3) := by decide +kernel
theorem dX4_countPlayed_38 : decode cX4_countPlayed 38 = .ok (.istore 6, 2) := by decide +kernel
theorem dX4_countPlayed_40 : decode cX4_countPlayed 40 = .ok (.aload_n 0, 1) := by decide +kernel
theorem dX4_countPlayed_41 : decode cX4_countPlayed 41 = .ok (.getfield 20, 3) := by decide +kernel
theorem dX4_countPlayed_44 : decode cX4_countPlayed 44 = .ok (.iload_n 3, 1) := by decide +kernel
theorem dX4_countPlayed_45 : decode cX4_countPlayed 45 = .ok (.iconst 1, 1) := by decide +kernel
theorem dX4_countPlayed_46 : decode cX4_countPlayed 46 = .ok (.invokevirtual 52, 3) := by decide +kernel
theorem dX4_countPlayed_49 : decode cX4_countPlayed 49 = .ok (.aload_n 0, 1) := by decide +kernel
theorem dX4_countPlayed_50 : decode cX4_countPlayed 50 = .ok (.getfield 26, 3) := by decide +kernel
theorem dX4_countPlayed_53 : decode cX4_countPlayed 53 = .ok (.iload_n 3, 1) := by decide +kernel
theorem dX4_countPlayed_54 : decode cX4_countPlayed 54 = .ok (.iload 5, 2) := by decide +kernel
theorem dX4_countPlayed_56 : decode cX4_countPlayed 56 = .ok (.invokevirtual 134, 3) := by decide +kernel
theorem dX4_countPlayed_59 : decode cX4_countPlayed 59 = .ok (.aload_n 0, 1) := by decide +kernel
theorem dX4_countPlayed_60 : decode cX4_countPlayed 60 = .ok (.getfield 23, 3) := by decide +kernel
theorem dX4_countPlayed_63 : decode cX4_countPlayed 63 = .ok (.iload_n 3, 1) := by decide +kernel
theorem dX4_countPlayed_64 : decode cX4_countPlayed 64 = .ok (.iload 5, 2) := by decide +kernel
theorem dX4_countPlayed_66 : decode cX4_countPlayed 66 = .ok (.ifCond .ne 7, 3) := by decide +kernel
theorem dX4_countPlayed_69 : decode cX4_countPlayed 69 = .ok (.iconst 1, 1) := by decide +kernel
theorem dX4_countPlayed_70 : decode cX4_countPlayed 70 = .ok (.goto 4, 3) := by decide +kernel
theorem dX4_countPlayed_73 : decode cX4_countPlayed 73 = .ok (.iconst (-1), 1) := by decide +kernel
theorem dX4_countPlayed_74 : decode cX4_countPlayed 74 = .ok (.invokevirtual 52, 3) := by decide +kernel
theorem dX4_countPlayed_77 : decode cX4_countPlayed 77 = .ok (.aload_n 0, 1) := by decide +kernel
theorem dX4_countPlayed_78 : decode cX4_countPlayed 78 = .ok (.iload_n 3, 1) := by decide +kernel
theorem dX4_countPlayed_79 : decode cX4_countPlayed 79 = .ok (.iconst 5, 1) := by decide +kernel
theorem dX4_countPlayed_80 : decode cX4_countPlayed 80 = .ok (.iload 5, 2) := by decide +kernel
theorem dX4_countPlayed_82 : decode cX4_countPlayed 82 = .ok (.iconst 1, 1) := by decide +kernel
theorem dX4_countPlayed_83 : decode cX4_countPlayed 83 = .ok (.if_icmp .ne 7, 3) := by decide +kernel
theorem dX4_countPlayed_86 : decode cX4_countPlayed 86 = .ok (.iconst 1, 1) := by decide +kernel
theorem dX4_countPlayed_87 : decode cX4_countPlayed 87 = .ok (.goto 4, 3) := by decide +kernel
theorem dX4_countPlayed_90 : decode cX4_countPlayed 90 = .ok (.iconst 0, 1) := by decide +kernel
theorem dX4_countPlayed_91 : decode cX4_countPlayed 91 = .ok (.invokevirtual 85, 3) := by decide +kernel
theorem dX4_countPlayed_94 : decode cX4_countPlayed 94 = .ok (.aload_n 0, 1) := by decide +kernel
theorem dX4_countPlayed_95 : decode cX4_countPlayed 95 = .ok (.iload_n 3, 1) := by decide +kernel
theorem dX4_countPlayed_96 : decode cX4_countPlayed 96 = .ok (.iconst 4, 1) := by decide +kernel
theorem dX4_countPlayed_97 : decode cX4_countPlayed 97 = .ok (.iload 4, 2) := by decide +kernel
theorem dX4_countPlayed_99 : decode cX4_countPlayed 99 = .ok (.iconst 1, 1) := by decide +kernel
theorem dX4_countPlayed_100 : decode cX4_countPlayed 100 = .ok (.if_icmp .ne 7, 3) := by decide +kernel
theorem dX4_countPlayed_103 : decode cX4_countPlayed 103 = .ok (.iconst 1, 1) := by decide +kernel
theorem dX4_countPlayed_104 : decode cX4_countPlayed 104 = .ok (.goto 4, 3) := by decide +kernel
theorem dX4_countPlayed_107 : decode cX4_countPlayed 107 = .ok (.iconst 0, 1) := by decide +kernel
theorem dX4_countPlayed_108 : decode cX4_countPlayed 108 = .ok (.invokevirtual 85, 3) := by decide +kernel
theorem dX4_countPlayed_111 : decode cX4_countPlayed 111 = .ok (.aload_n 0, 1) := by decide +kernel
theorem dX4_countPlayed_112 : decode cX4_countPlayed 112 = .ok (.getfield 35, 3) := by decide +kernel
theorem dX4_countPlayed_115 : decode cX4_countPlayed 115 = .ok (.iload 6, 2) := by decide +kernel
theorem dX4_countPlayed_117 : decode cX4_countPlayed 117 = .ok (.iload_n 1, 1) := by decide +kernel
theorem dX4_countPlayed_118 : decode cX4_countPlayed 118 = .ok (.invokevirtual 134, 3) := by decide +kernel
theorem dX4_countPlayed_121 : decode cX4_countPlayed 121 = .ok (.aload_n 0, 1) := by decide +kernel
theorem dX4_countPlayed_122 : decode cX4_countPlayed 122 = .ok (.getfield 38, 3) := by decide +kernel
theorem dX4_countPlayed_125 : decode cX4_countPlayed 125 = .ok (.iload 6, 2) := by decide +kernel
theorem dX4_countPlayed_127 : decode cX4_countPlayed 127 = .ok (.iload 4, 2) := by decide +kernel
theorem dX4_countPlayed_129 : decode cX4_countPlayed 129 = .ok (.invokestatic 118, 3) := by decide +kernel
theorem dX4_countPlayed_132 : decode cX4_countPlayed 132 = .ok (.invokevirtual 134, 3) := by decide +kernel
theorem dX4_countPlayed_135 : decode cX4_countPlayed 135 = .ok (.return_, 1) := by decide +kernel
theorem dX4_compareWithOpponents_0 : decode cX4_compareWithOpponents 0 = .ok (.aload_n 0, 1) := by decide +kernel
theorem dX4_compareWithOpponents_1 : decode cX4_compareWithOpponents 1 = .ok (.iload_n 1, 1) := by decide +kernel
theorem dX4_compareWithOpponents_2 : decode cX4_compareWithOpponents 2 = .ok (.iconst 0, 1) := by decide +kernel
theorem dX4_compareWithOpponents_3 : decode cX4_compareWithOpponents 3 = .ok (.invokevirtual 111, 3) := by decide +kernel
theorem dX4_compareWithOpponents_6 : decode cX4_compareWithOpponents 6 = .ok (.istore_n 2, 1) := by decide +kernel
theorem dX4_compareWithOpponents_7 : decode cX4_compareWithOpponents 7 = .ok (.iconst (-1), 1) := by decide +kernel
theorem dX4_compareWithOpponents_8 : decode cX4_compareWithOpponents 8 = .ok (.istore_n 3, 1) := by decide +kernel
theorem dX4_compareWithOpponents_9 : decode cX4_compareWithOpponents 9 = .ok (.iconst 0, 1) := by decide +kernel
theorem dX4_compareWithOpponents_10 : decode cX4_compareWithOpponents 10 = .ok (.istore 4, 2) := by decide +kernel
theorem dX4_compareWithOpponents_12 : decode cX4_compareWithOpponents 12 = .ok (.iload 4, 2) := by decide +kernel
theorem dX4_compareWithOpponents_14 : decode cX4_compareWithOpponents 14 = .ok (.aload_n 0, 1) := by decide +kernel
theorem dX4_compareWithOpponents_15 : decode cX4_compareWithOpponents 15 = .ok (.getfield 44, 3) := by decide +kernel
theorem dX4_compareWithOpponents_18 : decode cX4_compareWithOpponents 18 = .ok (.getfield 75, 3) := by decide +kernel
theorem dX4_compareWithOpponents_21 : decode cX4_compareWithOpponents 21 = .ok (.if_icmp .ge 92, 3) := by decide +kernel
theorem dX4_compareWithOpponents_24 : decode cX4_compareWithOpponents 24 = .ok (.aload_n 0, 1) := by decide +kernel
theorem dX4_compareWithOpponents_25 : decode cX4_compareWithOpponents 25 = .ok (.iload_n 1, 1) := by decide +kernel
theorem dX4_compareWithOpponents_26 : decode cX4_compareWithOpponents 26 = .ok (.iload 4, 2) := by decide +kernel
theorem dX4_compareWithOpponents_28 : decode cX4_compareWithOpponents 28 = .ok (.invokevirtual 137, 3) := by decide +kernel
theorem dX4_compareWithOpponents_31 : decode cX4_compareWithOpponents 31 = .ok (.ifCond .eq 76, 3) := by decide +kernel
theorem dX4_compareWithOpponents_34 : decode cX4_compareWithOpponents 34 = .ok (.aload_n 0, 1) := by decide +kernel
theorem dX4_compareWithOpponents_35 : decode cX4_compareWithOpponents 35 = .ok (.iload 4, 2) := by decide +kernel
theorem dX4_compareWithOpponents_37 : decode cX4_compareWithOpponents 37 = .ok (.iconst 0, 1) := by decide +kernel
theorem dX4_compareWithOpponents_38 : decode cX4_compareWithOpponents 38 = .ok (.invokevirtual 111, 3) := by decide +kernel
theorem dX4_compareWithOpponents_41 : decode cX4_compareWithOpponents 41 = .ok (.istore 5, 2) := by decide +kernel
theorem dX4_compareWithOpponents_43 : decode cX4_compareWithOpponents 43 = .ok (.aload_n 0, 1) := by decide +kernel
theorem dX4_compareWithOpponents_44 : decode cX4_compareWithOpponents 44 = .ok (.iload_n 1, 1) := by decide +kernel
theorem dX4_compareWithOpponents_45 : decode cX4_compareWithOpponents 45 = .ok (.iload 4, 2) := by decide +kernel
theorem dX4_compareWithOpponents_47 : decode cX4_compareWithOpponents 47 = .ok (.invokevirtual 141, 3) := by decide +kernel
theorem dX4_compareWithOpponents_50 : decode cX4_compareWithOpponents 50 = .ok (.istore 6, 2) := by decide +kernel
theorem dX4_compareWithOpponents_52 : decode cX4_compareWithOpponents 52 = .ok (.aload_n 0, 1) := by decide +kernel
theorem dX4_compareWithOpponents_53 : decode cX4_compareWithOpponents 53 = .ok (.iload_n 1, 1) := by decide +kernel
theorem dX4_compareWithOpponents_54 : decode cX4_compareWithOpponents 54 = .ok (.iconst 1, 1) := by decide +kernel
theorem dX4_compareWithOpponents_55 : decode cX4_compareWithOpponents 55 = .ok (.iload 5, 2) := by decide +kernel
theorem dX4_compareWithOpponents_57 : decode cX4_compareWithOpponents 57 = .ok (.invokevirtual 85, 3) := by decide +kernel
theorem dX4_compareWithOpponents_60 : decode cX4_compareWithOpponents 60 = .ok (.aload_n 0, 1) := by decide +kernel
theorem dX4_compareWithOpponents_61 : decode cX4_compareWithOpponents 61 = .ok (.iload_n 1, 1) := by decide +kernel
theorem dX4_compareWithOpponents_62 : decode cX4_compareWithOpponents 62 = .ok (.iconst 3, 1) := by decide +kernel
theorem dX4_compareWithOpponents_63 : decode cX4_compareWithOpponents 63 = .ok (.iload 6, 2) := by decide +kernel
theorem dX4_compareWithOpponents_65 : decode cX4_compareWithOpponents 65 = .ok (.iload 5, 2) := by decide +kernel
theorem dX4_compareWithOpponents_67 : decode cX4_compareWithOpponents 67 = .ok (.imul, 1) := by decide +kernel
theorem dX4_compareWithOpponents_68 : decode cX4_compareWithOpponents 68 = .ok (.invokevirtual 85, 3) := by decide +kernel
theorem dX4_compareWithOpponents_71 : decode cX4_compareWithOpponents 71 = .ok (.aload_n 0, 1) := by decide +kernel
theorem dX4_compareWithOpponents_72 : decode cX4_compareWithOpponents 72 = .ok (.iload_n 1, 1) := by decide +kernel
theorem dX4_compareWithOpponents_73 : decode cX4_compareWithOpponents 73 = .ok (.bipush 7, 2) := by decide +kernel
theorem dX4_compareWithOpponents_75 : decode cX4_compareWithOpponents 75 = .ok (.iload 5, 2) := by decide +kernel
theorem dX4_compareWithOpponents_77 : decode cX4_compareWithOpponents 77 = .ok (.iload_n 2, 1) := by decide +kernel
theorem dX4_compareWithOpponents_78 : decode cX4_compareWithOpponents 78 = .ok (.if_icmp .ne 8, 3) := by decide +kernel
theorem dX4_compareWithOpponents_81 : decode cX4_compareWithOpponents 81 = .ok (.iload 6, 2) := by decide +kernel
theorem dX4_compareWithOpponents_83 : decode cX4_compareWithOpponents 83 = .ok (.goto 4, 3) := by decide +kernel
theorem dX4_compareWithOpponents_86 : decode cX4_compareWithOpponents 86 = .ok (.iconst 0, 1) := by decide +kernel
theorem dX4_compareWithOpponents_87 : decode cX4_compareWithOpponents 87 = .ok (.invokevirtual 85, 3) := by decide +kernel
theorem dX4_compareWithOpponents_90 : decode cX4_compareWithOpponents 90 = .ok (.iload_n 3, 1) := by decide +kernel
theorem dX4_compareWithOpponents_91 : decode cX4_compareWithOpponents 91 = .ok (.iconst (-1), 1) := by decide +kernel
theorem dX4_compareWithOpponents_92 : decode cX4_compareWithOpponents 92 = .ok (.if_icmp .ne 8, 3) := by decide +kernel
theorem dX4_compareWithOpponents_95 : decode cX4_compareWithOpponents 95 = .ok (.iload 5, 2) := by decide +kernel
theorem dX4_compareWithOpponents_97 : decode cX4_compareWithOpponents 97 = .ok (.goto 9, 3) := by decide +kernel
theorem dX4_compareWithOpponents_100 : decode cX4_compareWithOpponents 100 = .ok (.iload_n 3, 1) := by decide +kernel
theorem dX4_compareWithOpponents_101 : decode cX4_compareWithOpponents 101 = .ok (.iload 5, 2) := by decide +kernel
theorem dX4_compareWithOpponents_103 : decode cX4_compareWithOpponents 103 = .ok (.invokestatic 144, 3) := by decide +kernel
theorem dX4_compareWithOpponents_106 : decode cX4_compareWithOpponents 106 = .ok (.istore_n 3, 1) := by decide +kernel
theorem dX4_compareWithOpponents_107 : decode cX4_compareWithOpponents 107 = .ok (.iinc 4 1, 3) := by decide +kernel
theorem dX4_compareWithOpponents_110 : decode cX4_compareWithOpponents 110 = .ok (.goto (-98), 3) := by decide +kernel
theorem dX4_compareWithOpponents_113 : decode cX4_compareWithOpponents 113 = .ok (.aload_n 0, 1) := by decide +kernel
theorem dX4_compareWithOpponents_114 : decode cX4_compareWithOpponents 114 = .ok (.iload_n 1, 1) := by decide +kernel
theorem dX4_compareWithOpponents_115 : decode cX4_compareWithOpponents 115 = .ok (.iconst 2, 1) := by decide +kernel
theorem dX4_compareWithOpponents_116 : decode cX4_compareWithOpponents 116 = .ok (.aload_n 0, 1) := by decide +kernel
theorem dX4_compareWithOpponents_117 : decode cX4_compareWithOpponents 117 = .ok (.iload_n 1, 1) := by decide +kernel
theorem dX4_compareWithOpponents_118 : decode cX4_compareWithOpponents 118 = .ok (.iconst 1, 1) := by decide +kernel
theorem dX4_compareWithOpponents_119 : decode cX4_compareWithOpponents 119 = .ok (.invokevirtual 111, 3) := by decide +kernel
theorem dX4_compareWithOpponents_122 : decode cX4_compareWithOpponents 122 = .ok (.iconst 0, 1) := by decide +kernel
theorem dX4_compareWithOpponents_123 : decode cX4_compareWithOpponents 123 = .ok (.iload_n 3, 1) := by decide +kernel
theorem dX4_compareWithOpponents_124 : decode cX4_compareWithOpponents 124 = .ok (.invokestatic 149, 3) := by decide +kernel
theorem dX4_compareWithOpponents_127 : decode cX4_compareWithOpponents 127 = .ok (.isub, 1) := by decide +kernel
theorem dX4_compareWithOpponents_128 : decode cX4_compareWithOpponents 128 = .ok (.invokevirtual 85, 3) := by decide +kernel
theorem dX4_compareWithOpponents_131 : decode cX4_compareWithOpponents 131 = .ok (.return_, 1) := by decide +kernel
theorem dX4_stand_0 : decode cX4_stand 0 = .ok (.iconst 0, 1) := by decide +kernel
theorem dX4_stand_1 : decode cX4_stand 1 = .ok (.istore_n 1, 1) := by decide +kernel
theorem dX4_stand_2 : decode cX4_stand 2 = .ok (.iload_n 1, 1) := by decide +kernel
theorem dX4_stand_3 : decode cX4_stand 3 = .ok (.aload_n 0, 1) := by decide +kernel
theorem dX4_stand_4 : decode cX4_stand 4 = .ok (.getfield 44, 3) := by decide +kernel
theorem dX4_stand_7 : decode cX4_stand 7 = .ok (.getfield 75, 3) := by decide +kernel
theorem dX4_stand_10 : decode cX4_stand 10 = .ok (.if_icmp .ge 66, 3) := by decide +kernel
theorem dX4_stand_13 : decode cX4_stand 13 = .ok (.iload_n 1, 1) := by decide +kernel
theorem dX4_stand_14 : decode cX4_stand 14 = .ok (.istore_n 2, 1) := by decide +kernel
theorem dX4_stand_15 : decode cX4_stand 15 = .ok (.iload_n 2, 1) := by decide +kernel
theorem dX4_stand_16 : decode cX4_stand 16 = .ok (.ifCond .le 45, 3) := by decide +kernel
theorem dX4_stand_19 : decode cX4_stand 19 = .ok (.aload_n 0, 1) := by decide +kernel
theorem dX4_stand_20 : decode cX4_stand 20 = .ok (.iload_n 1, 1) := by decide +kernel
theorem dX4_stand_21 : decode cX4_stand 21 = .ok (.aload_n 0, 1) := by decide +kernel
theorem dX4_stand_22 : decode cX4_stand 22 = .ok (.getfield 41, 3) := by decide +kernel
theorem dX4_stand_25 : decode cX4_stand 25 = .ok (.iload_n 2, 1) := by decide +kernel
theorem dX4_stand_26 : decode cX4_stand 26 = .ok (.iconst 1, 1) := by decide +kernel
theorem dX4_stand_27 : decode cX4_stand 27 = .ok (.isub, 1) := by decide +kernel
theorem dX4_stand_28 : decode cX4_stand 28 = .ok (.invokevirtual 48, 3) := by decide +kernel
theorem dX4_stand_31 : decode cX4_stand 31 = .ok (.invokevirtual 152, 3) := by decide +kernel
theorem dX4_stand_34 : decode cX4_stand 34 = .ok (.ifCond .eq 27, 3) := by decide +kernel
theorem dX4_stand_37 : decode cX4_stand 37 = .ok (.aload_n 0, 1) := by decide +kernel
theorem dX4_stand_38 : decode cX4_stand 38 = .ok (.getfield 41, 3) := by decide +kernel
theorem dX4_stand_41 : decode cX4_stand 41 = .ok (.iload_n 2, 1) := by decide +kernel
theorem dX4_stand_42 : decode cX4_stand 42 = .ok (.aload_n 0, 1) := by decide +kernel
theorem dX4_stand_43 : decode cX4_stand 43 = .ok (.getfield 41, 3) := by decide +kernel
theorem dX4_stand_46 : decode cX4_stand 46 = .ok (.iload_n 2, 1) := by decide +kernel
theorem dX4_stand_47 : decode cX4_stand 47 = .ok (.iconst 1, 1) := by decide +kernel
theorem dX4_stand_48 : decode cX4_stand 48 = .ok (.isub, 1) := by decide +kernel
theorem dX4_stand_49 : decode cX4_stand 49 = .ok (.invokevirtual 48, 3) := by decide +kernel
theorem dX4_stand_52 : decode cX4_stand 52 = .ok (.invokevirtual 134, 3) := by decide +kernel
theorem dX4_stand_55 : decode cX4_stand 55 = .ok (.iinc 2 (-1), 3) := by decide +kernel
theorem dX4_stand_58 : decode cX4_stand 58 = .ok (.goto (-43), 3) := by decide +kernel
theorem dX4_stand_61 : decode cX4_stand 61 = .ok (.aload_n 0, 1) := by decide +kernel
theorem dX4_stand_62 : decode cX4_stand 62 = .ok (.getfield 41, 3) := by decide +kernel
theorem dX4_stand_65 : decode cX4_stand 65 = .ok (.iload_n 2, 1) := by decide +kernel
theorem dX4_stand_66 : decode cX4_stand 66 = .ok (.iload_n 1, 1) := by decide +kernel
theorem dX4_stand_67 : decode cX4_stand 67 = .ok (.invokevirtual 134, 3) := by decide +kernel
theorem dX4_stand_70 : decode cX4_stand 70 = .ok (.iinc 1 1, 3) := by decide +kernel
theorem dX4_stand_73 : decode cX4_stand 73 = .ok (.goto (-71), 3) := by decide +kernel
theorem dX4_stand_76 : decode cX4_stand 76 = .ok (.return_, 1) := by decide +kernel
theorem dX4_isAhead_0 : decode cX4_isAhead 0 = .ok (.aload_n 0, 1) := by decide +kernel
theorem dX4_isAhead_1 : decode cX4_isAhead 1 = .ok (.iload_n 1, 1) := by decide +kernel
theorem dX4_isAhead_2 : decode cX4_isAhead 2 = .ok (.iload_n 2, 1) := by decide +kernel
theorem dX4_isAhead_3 : decode cX4_isAhead 3 = .ok (.invokevirtual 155, 3) := by decide +kernel
theorem dX4_isAhead_6 : decode cX4_isAhead 6 = .ok (.istore_n 3, 1) := by decide +kernel
theorem dX4_isAhead_7 : decode cX4_isAhead 7 = .ok (.iload_n 3, 1) := by decide +kernel
theorem dX4_isAhead_8 : decode cX4_isAhead 8 = .ok (.bipush (-5), 2) := by decide +kernel
theorem dX4_isAhead_10 : decode cX4_isAhead 10 = .ok (.if_icmp .ne 16, 3) := by decide +kernel
theorem dX4_isAhead_13 : decode cX4_isAhead 13 = .ok (.iload_n 1, 1) := by decide +kernel
theorem dX4_isAhead_14 : decode cX4_isAhead 14 = .ok (.iload_n 2, 1) := by decide +kernel
theorem dX4_isAhead_15 : decode cX4_isAhead 15 = .ok (.if_icmp .ge 7, 3) := by decide +kernel
theorem dX4_isAhead_18 : decode cX4_isAhead 18 = .ok (.iconst 1, 1) := by decide +kernel
theorem dX4_isAhead_19 : decode cX4_isAhead 19 = .ok (.goto 27, 3) := by decide +kernel
theorem dX4_isAhead_22 : decode cX4_isAhead 22 = .ok (.iconst 0, 1) := by decide +kernel
theorem dX4_isAhead_23 : decode cX4_isAhead 23 = .ok (.goto 23, 3) := by decide +kernel
theorem dX4_isAhead_26 : decode cX4_isAhead 26 = .ok (.aload_n 0, 1) := by decide +kernel
theorem dX4_isAhead_27 : decode cX4_isAhead 27 = .ok (.iload_n 1, 1) := by decide +kernel
theorem dX4_isAhead_28 : decode cX4_isAhead 28 = .ok (.iload_n 3, 1) := by decide +kernel
theorem dX4_isAhead_29 : decode cX4_isAhead 29 = .ok (.invokevirtual 111, 3) := by decide +kernel
theorem dX4_isAhead_32 : decode cX4_isAhead 32 = .ok (.aload_n 0, 1) := by decide +kernel
theorem dX4_isAhead_33 : decode cX4_isAhead 33 = .ok (.iload_n 2, 1) := by decide +kernel
theorem dX4_isAhead_34 : decode cX4_isAhead 34 = .ok (.iload_n 3, 1) := by decide +kernel
theorem dX4_isAhead_35 : decode cX4_isAhead 35 = .ok (.invokevirtual 111, 3) := by decide +kernel
theorem dX4_isAhead_38 : decode cX4_isAhead 38 = .ok (.if_icmp .le 7, 3) := by decide +kernel
theorem dX4_isAhead_41 : decode cX4_isAhead 41 = .ok (.iconst 1, 1) := by decide +kernel
theorem dX4_isAhead_42 : decode cX4_isAhead 42 = .ok (.goto 4, 3) := by decide +kernel
theorem dX4_isAhead_45 : decode cX4_isAhead 45 = .ok (.iconst 0, 1) := by decide +kernel
theorem dX4_isAhead_46 : decode cX4_isAhead 46 = .ok (.ireturn, 1) := by decide +kernel
theorem dX4_firstDifference_0 : decode cX4_firstDifference 0 = .ok (.iconst 0, 1) := by decide +kernel
theorem dX4_firstDifference_1 : decode cX4_firstDifference 1 = .ok (.istore_n 3, 1) := by decide +kernel
theorem dX4_firstDifference_2 : decode cX4_firstDifference 2 = .ok (.iload_n 3, 1) := by decide +kernel
theorem dX4_firstDifference_3 : decode cX4_firstDifference 3 = .ok (.aload_n 0, 1) := by decide +kernel
theorem dX4_firstDifference_4 : decode cX4_firstDifference 4 = .ok (.getfield 44, 3) := by decide +kernel
theorem dX4_firstDifference_7 : decode cX4_firstDifference 7 = .ok (.getfield 158, 3) := by decide +kernel
theorem dX4_firstDifference_10 : decode cX4_firstDifference 10 = .ok (.if_icmp .ge 42, 3) := by decide +kernel
theorem dX4_firstDifference_13 : decode cX4_firstDifference 13 = .ok (.aload_n 0, 1) := by decide +kernel
theorem dX4_firstDifference_14 : decode cX4_firstDifference 14 = .ok (.getfield 44, 3) := by decide +kernel
theorem dX4_firstDifference_17 : decode cX4_firstDifference 17 = .ok (.getfield 161, 3) := by decide +kernel
theorem dX4_firstDifference_20 : decode cX4_firstDifference 20 = .ok (.iload_n 3, 1) := by decide +kernel
theorem dX4_firstDifference_21 : decode cX4_firstDifference 21 = .ok (.invokevirtual 48, 3) := by decide +kernel
theorem dX4_firstDifference_24 : decode cX4_firstDifference 24 = .ok (.istore 4, 2) := by decide +kernel
theorem dX4_firstDifference_26 : decode cX4_firstDifference 26 = .ok (.aload_n 0, 1) := by decide +kernel
theorem dX4_firstDifference_27 : decode cX4_firstDifference 27 = .ok (.iload_n 1, 1) := by decide +kernel
theorem dX4_firstDifference_28 : decode cX4_firstDifference 28 = .ok (.iload 4, 2) := by decide +kernel
theorem dX4_firstDifference_30 : decode cX4_firstDifference 30 = .ok (.invokevirtual 111, 3) := by decide +kernel
theorem dX4_firstDifference_33 : decode cX4_firstDifference 33 = .ok (.aload_n 0, 1) := by decide +kernel
theorem dX4_firstDifference_34 : decode cX4_firstDifference 34 = .ok (.iload_n 2, 1) := by decide +kernel
theorem dX4_firstDifference_35 : decode cX4_firstDifference 35 = .ok (.iload 4, 2) := by decide +kernel
theorem dX4_firstDifference_37 : decode cX4_firstDifference 37 = .ok (.invokevirtual 111, 3) := by decide +kernel
theorem dX4_firstDifference_40 : decode cX4_firstDifference 40 = .ok (.if_icmp .eq 6, 3) := by decide +kernel
theorem dX4_firstDifference_43 : decode cX4_firstDifference 43 = .ok (.iload 4, 2) := by decide +kernel
theorem dX4_firstDifference_45 : decode cX4_firstDifference 45 = .ok (.ireturn, 1) := by decide +kernel
theorem dX4_firstDifference_46 : decode cX4_firstDifference 46 = .ok (.iinc 3 1, 3) := by decide +kernel
theorem dX4_firstDifference_49 : decode cX4_firstDifference 49 = .ok (.goto (-47), 3) := by decide +kernel
theorem dX4_firstDifference_52 : decode cX4_firstDifference 52 = .ok (.bipush (-5), 2) := by decide +kernel
theorem dX4_firstDifference_54 : decode cX4_firstDifference 54 = .ok (.ireturn, 1) := by decide +kernel
theorem dX4_placeOf_0 : decode cX4_placeOf 0 = .ok (.iconst 0, 1) := by decide +kernel
theorem dX4_placeOf_1 : decode cX4_placeOf 1 = .ok (.istore_n 2, 1) := by decide +kernel
theorem dX4_placeOf_2 : decode cX4_placeOf 2 = .ok (.iload_n 2, 1) := by decide +kernel
theorem dX4_placeOf_3 : decode cX4_placeOf 3 = .ok (.aload_n 0, 1) := by decide +kernel
theorem dX4_placeOf_4 : decode cX4_placeOf 4 = .ok (.getfield 44, 3) := by decide +kernel
theorem dX4_placeOf_7 : decode cX4_placeOf 7 = .ok (.getfield 75, 3) := by decide +kernel
theorem dX4_placeOf_10 : decode cX4_placeOf 10 = .ok (.if_icmp .ge 23, 3) := by decide +kernel
theorem dX4_placeOf_13 : decode cX4_placeOf 13 = .ok (.aload_n 0, 1) := by decide +kernel
theorem dX4_placeOf_14 : decode cX4_placeOf 14 = .ok (.getfield 41, 3) := by decide +kernel
theorem dX4_placeOf_17 : decode cX4_placeOf 17 = .ok (.iload_n 2, 1) := by decide +kernel
theorem dX4_placeOf_18 : decode cX4_placeOf 18 = .ok (.invokevirtual 48, 3) := by decide +kernel
theorem dX4_placeOf_21 : decode cX4_placeOf 21 = .ok (.iload_n 1, 1) := by decide +kernel
theorem dX4_placeOf_22 : decode cX4_placeOf 22 = .ok (.if_icmp .ne 5, 3) := by decide +kernel
theorem dX4_placeOf_25 : decode cX4_placeOf 25 = .ok (.iload_n 2, 1) := by decide +kernel
theorem dX4_placeOf_26 : decode cX4_placeOf 26 = .ok (.ireturn, 1) := by decide +kernel
theorem dX4_placeOf_27 : decode cX4_placeOf 27 = .ok (.iinc 2 1, 3) := by decide +kernel
theorem dX4_placeOf_30 : decode cX4_placeOf 30 = .ok (.goto (-28), 3) := by decide +kernel
theorem dX4_placeOf_33 : decode cX4_placeOf 33 = .ok (.iconst (-1), 1) := by decide +kernel
theorem dX4_placeOf_34 : decode cX4_placeOf 34 = .ok (.ireturn, 1) := by decide +kernel
theorem dX4_countMet_0 : decode cX4_countMet 0 = .ok (.iconst 0, 1) := by decide +kernel
theorem dX4_countMet_1 : decode cX4_countMet 1 = .ok (.istore_n 2, 1) := by decide +kernel
theorem dX4_countMet_2 : decode cX4_countMet 2 = .ok (.iconst 0, 1) := by decide +kernel
theorem dX4_countMet_3 : decode cX4_countMet 3 = .ok (.istore_n 3, 1) := by decide +kernel
theorem dX4_countMet_4 : decode cX4_countMet 4 = .ok (.iload_n 3, 1) := by decide +kernel
theorem dX4_countMet_5 : decode cX4_countMet 5 = .ok (.aload_n 0, 1) := by decide +kernel
theorem dX4_countMet_6 : decode cX4_countMet 6 = .ok (.getfield 44, 3) := by decide +kernel
theorem dX4_countMet_9 : decode cX4_countMet 9 = .ok (.getfield 75, 3) := by decide +kernel
theorem dX4_countMet_12 : decode cX4_countMet 12 = .ok (.if_icmp .ge 21, 3) := by decide +kernel
theorem dX4_countMet_15 : decode cX4_countMet 15 = .ok (.aload_n 0, 1) := by decide +kernel
theorem dX4_countMet_16 : decode cX4_countMet 16 = .ok (.iload_n 1, 1) := by decide +kernel
theorem dX4_countMet_17 : decode cX4_countMet 17 = .ok (.iload_n 3, 1) := by decide +kernel
theorem dX4_countMet_18 : decode cX4_countMet 18 = .ok (.invokevirtual 137, 3) := by decide +kernel
theorem dX4_countMet_21 : decode cX4_countMet 21 = .ok (.ifCond .eq 6, 3) := by decide +kernel
theorem dX4_countMet_24 : decode cX4_countMet 24 = .ok (.iinc 2 1, 3) := by decide +kernel
theorem dX4_countMet_27 : decode cX4_countMet 27 = .ok (.iinc 3 1, 3) := by decide +kernel
theorem dX4_countMet_30 : decode cX4_countMet 30 = .ok (.goto (-26), 3) := by decide +kernel
theorem dX4_countMet_33 : decode cX4_countMet 33 = .ok (.iload_n 2, 1) := by decide +kernel
theorem dX4_countMet_34 : decode cX4_countMet 34 = .ok (.ireturn, 1) := by decide +kernel
theorem dX4_countMeetings_0 : decode cX4_countMeetings 0 = .ok (.iconst 0, 1) := by decide +kernel
theorem dX4_countMeetings_1 : decode cX4_countMeetings 1 = .ok (.istore_n 1, 1) := by decide +kernel
theorem dX4_countMeetings_2 : decode cX4_countMeetings 2 = .ok (.iconst 0, 1) := by decide +kernel
theorem dX4_countMeetings_3 : decode cX4_countMeetings 3 = .ok (.istore_n 2, 1) := by decide +kernel
theorem dX4_countMeetings_4 : decode cX4_countMeetings 4 = .ok (.iload_n 2, 1) := by decide +kernel
theorem dX4_countMeetings_5 : decode cX4_countMeetings 5 = .ok (.aload_n 0, 1) := by decide +kernel
theorem dX4_countMeetings_6 : decode cX4_countMeetings 6 = .ok (.getfield 44, 3) := by decide +kernel
theorem dX4_countMeetings_9 : decode cX4_countMeetings 9 = .ok (.getfield 75, 3) := by decide +kernel
theorem dX4_countMeetings_12 : decode cX4_countMeetings 12 = .ok (.if_icmp .ge 17, 3) := by decide +kernel
theorem dX4_countMeetings_15 : decode cX4_countMeetings 15 = .ok (.iload_n 1, 1) := by decide +kernel
theorem dX4_countMeetings_16 : decode cX4_countMeetings 16 = .ok (.aload_n 0, 1) := by decide +kernel
theorem dX4_countMeetings_17 : decode cX4_countMeetings 17 = .ok (.iload_n 2, 1) := by decide +kernel
theorem dX4_countMeetings_18 : decode cX4_countMeetings 18 = .ok (.invokevirtual 164, 3) := by decide +kernel
theorem dX4_countMeetings_21 : decode cX4_countMeetings 21 = .ok (.iadd, 1) := by decide +kernel
theorem dX4_countMeetings_22 : decode cX4_countMeetings 22 = .ok (.istore_n 1, 1) := by decide +kernel
theorem dX4_countMeetings_23 : decode cX4_countMeetings 23 = .ok (.iinc 2 1, 3) := by decide +kernel
theorem dX4_countMeetings_26 : decode cX4_countMeetings 26 = .ok (.goto (-22), 3) := by decide +kernel
theorem dX4_countMeetings_29 : decode cX4_countMeetings 29 = .ok (.iload_n 1, 1) := by decide +kernel
theorem dX4_countMeetings_30 : decode cX4_countMeetings 30 = .ok (.iconst 2, 1) := by decide +kernel
theorem dX4_countMeetings_31 : decode cX4_countMeetings 31 = .ok (.idiv, 1) := by decide +kernel
theorem dX4_countMeetings_32 : decode cX4_countMeetings 32 = .ok (.ireturn, 1) := by decide +kernel
theorem dX4_sumPoints_0 : decode cX4_sumPoints 0 = .ok (.iconst 0, 1) := by decide +kernel
theorem dX4_sumPoints_1 : decode cX4_sumPoints 1 = .ok (.istore_n 1, 1) := by decide +kernel
theorem dX4_sumPoints_2 : decode cX4_sumPoints 2 = .ok (.iconst 0, 1) := by decide +kernel
theorem dX4_sumPoints_3 : decode cX4_sumPoints 3 = .ok (.istore_n 2, 1) := by decide +kernel
theorem dX4_sumPoints_4 : decode cX4_sumPoints 4 = .ok (.iload_n 2, 1) := by decide +kernel
theorem dX4_sumPoints_5 : decode cX4_sumPoints 5 = .ok (.aload_n 0, 1) := by decide +kernel
theorem dX4_sumPoints_6 : decode cX4_sumPoints 6 = .ok (.getfield 44, 3) := by decide +kernel
theorem dX4_sumPoints_9 : decode cX4_sumPoints 9 = .ok (.getfield 75, 3) := by decide +kernel
theorem dX4_sumPoints_12 : decode cX4_sumPoints 12 = .ok (.if_icmp .ge 18, 3) := by decide +kernel
theorem dX4_sumPoints_15 : decode cX4_sumPoints 15 = .ok (.iload_n 1, 1) := by decide +kernel
theorem dX4_sumPoints_16 : decode cX4_sumPoints 16 = .ok (.aload_n 0, 1) := by decide +kernel
theorem dX4_sumPoints_17 : decode cX4_sumPoints 17 = .ok (.iload_n 2, 1) := by decide +kernel
theorem dX4_sumPoints_18 : decode cX4_sumPoints 18 = .ok (.iconst 0, 1) := by decide +kernel
theorem dX4_sumPoints_19 : decode cX4_sumPoints 19 = .ok (.invokevirtual 111, 3) := by decide +kernel
theorem dX4_sumPoints_22 : decode cX4_sumPoints 22 = .ok (.iadd, 1) := by decide +kernel
theorem dX4_sumPoints_23 : decode cX4_sumPoints 23 = .ok (.istore_n 1, 1) := by decide +kernel
theorem dX4_sumPoints_24 : decode cX4_sumPoints 24 = .ok (.iinc 2 1, 3) := by decide +kernel
theorem dX4_sumPoints_27 : decode cX4_sumPoints 27 = .ok (.goto (-23), 3) := by decide +kernel
theorem dX4_sumPoints_30 : decode cX4_sumPoints 30 = .ok (.iload_n 1, 1) := by decide +kernel
theorem dX4_sumPoints_31 : decode cX4_sumPoints 31 = .ok (.ireturn, 1) := by decide +kernel
theorem dX4_sumRatings_0 : decode cX4_sumRatings 0 = .ok (.iconst 0, 1) := by decide +kernel
theorem dX4_sumRatings_1 : decode cX4_sumRatings 1 = .ok (.istore_n 2, 1) := by decide +kernel
theorem dX4_sumRatings_2 : decode cX4_sumRatings 2 = .ok (.iconst 0, 1) := by decide +kernel
theorem dX4_sumRatings_3 : decode cX4_sumRatings 3 = .ok (.istore_n 3, 1) := by decide +kernel
theorem dX4_sumRatings_4 : decode cX4_sumRatings 4 = .ok (.iload_n 3, 1) := by decide +kernel
theorem dX4_sumRatings_5 : decode cX4_sumRatings 5 = .ok (.aload_n 0, 1) := by decide +kernel
theorem dX4_sumRatings_6 : decode cX4_sumRatings 6 = .ok (.getfield 44, 3) := by decide +kernel
theorem dX4_sumRatings_9 : decode cX4_sumRatings 9 = .ok (.getfield 75, 3) := by decide +kernel
theorem dX4_sumRatings_12 : decode cX4_sumRatings 12 = .ok (.if_icmp .ge 32, 3) := by decide +kernel
theorem dX4_sumRatings_15 : decode cX4_sumRatings 15 = .ok (.aload_n 0, 1) := by decide +kernel
theorem dX4_sumRatings_16 : decode cX4_sumRatings 16 = .ok (.iload_n 1, 1) := by decide +kernel
theorem dX4_sumRatings_17 : decode cX4_sumRatings 17 = .ok (.iload_n 3, 1) := by decide +kernel
theorem dX4_sumRatings_18 : decode cX4_sumRatings 18 = .ok (.invokevirtual 137, 3) := by decide +kernel
theorem dX4_sumRatings_21 : decode cX4_sumRatings 21 = .ok (.ifCond .eq 17, 3) := by decide +kernel
theorem dX4_sumRatings_24 : decode cX4_sumRatings 24 = .ok (.iload_n 2, 1) := by decide +kernel
theorem dX4_sumRatings_25 : decode cX4_sumRatings 25 = .ok (.aload_n 0, 1) := by decide +kernel
theorem dX4_sumRatings_26 : decode cX4_sumRatings 26 = .ok (.getfield 44, 3) := by decide +kernel
theorem dX4_sumRatings_29 : decode cX4_sumRatings 29 = .ok (.getfield 82, 3) := by decide +kernel
theorem dX4_sumRatings_32 : decode cX4_sumRatings 32 = .ok (.iload_n 3, 1) := by decide +kernel
theorem dX4_sumRatings_33 : decode cX4_sumRatings 33 = .ok (.invokevirtual 48, 3) := by decide +kernel
theorem dX4_sumRatings_36 : decode cX4_sumRatings 36 = .ok (.iadd, 1) := by decide +kernel
theorem dX4_sumRatings_37 : decode cX4_sumRatings 37 = .ok (.istore_n 2, 1) := by decide +kernel
theorem dX4_sumRatings_38 : decode cX4_sumRatings 38 = .ok (.iinc 3 1, 3) := by decide +kernel
theorem dX4_sumRatings_41 : decode cX4_sumRatings 41 = .ok (.goto (-37), 3) := by decide +kernel
theorem dX4_sumRatings_44 : decode cX4_sumRatings 44 = .ok (.iload_n 2, 1) := by decide +kernel
theorem dX4_sumRatings_45 : decode cX4_sumRatings 45 = .ok (.ireturn, 1) := by decide +kernel
theorem dX4_costOf_0 : decode cX4_costOf 0 = .ok (.aload_n 0, 1) := by decide +kernel
theorem dX4_costOf_1 : decode cX4_costOf 1 = .ok (.iload_n 1, 1) := by decide +kernel
theorem dX4_costOf_2 : decode cX4_costOf 2 = .ok (.iload_n 2, 1) := by decide +kernel
theorem dX4_costOf_3 : decode cX4_costOf 3 = .ok (.invokevirtual 137, 3) := by decide +kernel
theorem dX4_costOf_6 : decode cX4_costOf 6 = .ok (.ifCond .eq 6, 3) := by decide +kernel
theorem dX4_costOf_9 : decode cX4_costOf 9 = .ok (.bipush (-5), 2) := by decide +kernel
theorem dX4_costOf_11 : decode cX4_costOf 11 = .ok (.ireturn, 1) := by decide +kernel
theorem dX4_costOf_12 : decode cX4_costOf 12 = .ok (.bipush 10, 2) := by decide +kernel
theorem dX4_costOf_14 : decode cX4_costOf 14 = .ok (.aload_n 0, 1) := by decide +kernel
theorem dX4_costOf_15 : decode cX4_costOf 15 = .ok (.iload_n 1, 1) := by decide +kernel
theorem dX4_costOf_16 : decode cX4_costOf 16 = .ok (.iconst 0, 1) := by decide +kernel
theorem dX4_costOf_17 : decode cX4_costOf 17 = .ok (.invokevirtual 111, 3) := by decide +kernel
theorem dX4_costOf_20 : decode cX4_costOf 20 = .ok (.aload_n 0, 1) := by decide +kernel
theorem dX4_costOf_21 : decode cX4_costOf 21 = .ok (.iload_n 2, 1) := by decide +kernel
theorem dX4_costOf_22 : decode cX4_costOf 22 = .ok (.iconst 0, 1) := by decide +kernel
theorem dX4_costOf_23 : decode cX4_costOf 23 = .ok (.invokevirtual 111, 3) := by decide +kernel
theorem dX4_costOf_26 : decode cX4_costOf 26 = .ok (.isub, 1) := by decide +kernel
theorem dX4_costOf_27 : decode cX4_costOf 27 = .ok (.invokestatic 167, 3) := by decide +kernel
theorem dX4_costOf_30 : decode cX4_costOf 30 = .ok (.imul, 1) := by decide +kernel
theorem dX4_costOf_31 : decode cX4_costOf 31 = .ok (.istore_n 3, 1) := by decide +kernel
theorem dX4_costOf_32 : decode cX4_costOf 32 = .ok (.aload_n 0, 1) := by decide +kernel
theorem dX4_costOf_33 : decode cX4_costOf 33 = .ok (.getfield 23, 3) := by decide +kernel
theorem dX4_costOf_36 : decode cX4_costOf 36 = .ok (.iload_n 1, 1) := by decide +kernel
theorem dX4_costOf_37 : decode cX4_costOf 37 = .ok (.invokevirtual 48, 3) := by decide +kernel
theorem dX4_costOf_40 : decode cX4_costOf 40 = .ok (.aload_n 0, 1) := by decide +kernel
theorem dX4_costOf_41 : decode cX4_costOf 41 = .ok (.getfield 23, 3) := by decide +kernel
theorem dX4_costOf_44 : decode cX4_costOf 44 = .ok (.iload_n 2, 1) := by decide +kernel
theorem dX4_costOf_45 : decode cX4_costOf 45 = .ok (.invokevirtual 48, 3) := by decide +kernel
theorem dX4_costOf_48 : decode cX4_costOf 48 = .ok (.imul, 1) := by decide +kernel
theorem dX4_costOf_49 : decode cX4_costOf 49 = .ok (.ifCond .le 6, 3) := by decide +kernel
theorem dX4_costOf_52 : decode cX4_costOf 52 = .ok (.iinc 3 3, 3) := by decide +kernel
theorem dX4_costOf_55 : decode cX4_costOf 55 = .ok (.aload_n 0, 1) := by decide +kernel
theorem dX4_costOf_56 : decode cX4_costOf 56 = .ok (.getfield 26, 3) := by decide +kernel
theorem dX4_costOf_59 : decode cX4_costOf 59 = .ok (.iload_n 1, 1) := by decide +kernel
theorem dX4_costOf_60 : decode cX4_costOf 60 = .ok (.invokevirtual 48, 3) := by decide +kernel
theorem dX4_costOf_63 : decode cX4_costOf 63 = .ok (.bipush (-5), 2) := by decide +kernel
theorem dX4_costOf_65 : decode cX4_costOf 65 = .ok (.if_icmp .eq 25, 3) := by decide +kernel
theorem dX4_costOf_68 : decode cX4_costOf 68 = .ok (.aload_n 0, 1) := by decide +kernel
theorem dX4_costOf_69 : decode cX4_costOf 69 = .ok (.getfield 26, 3) := by decide +kernel
theorem dX4_costOf_72 : decode cX4_costOf 72 = .ok (.iload_n 1, 1) := by decide +kernel
theorem dX4_costOf_73 : decode cX4_costOf 73 = .ok (.invokevirtual 48, 3) := by decide +kernel
theorem dX4_costOf_76 : decode cX4_costOf 76 = .ok (.aload_n 0, 1) := by decide +kernel
theorem dX4_costOf_77 : decode cX4_costOf 77 = .ok (.getfield 26, 3) := by decide +kernel
theorem dX4_costOf_80 : decode cX4_costOf 80 = .ok (.iload_n 2, 1) := by decide +kernel
theorem dX4_costOf_81 : decode cX4_costOf 81 = .ok (.invokevirtual 48, 3) := by decide +kernel
theorem dX4_costOf_84 : decode cX4_costOf 84 = .ok (.if_icmp .ne 6, 3) := by decide +kernel
theorem dX4_costOf_87 : decode cX4_costOf 87 = .ok (.iinc 3 1, 3) := by decide +kernel
theorem dX4_costOf_90 : decode cX4_costOf 90 = .ok (.iload_n 3, 1) := by decide +kernel
theorem dX4_costOf_91 : decode cX4_costOf 91 = .ok (.ireturn, 1) := by decide +kernel
theorem dX5_init_0 : decode cX5_init 0 = .ok (.aload_n 0, 1) := by decide +kernel
theorem dX5_init_1 : decode cX5_init 1 = .ok (.invokespecial 1, 3) := by decide +kernel
theorem dX5_init_4 : decode cX5_init 4 = .ok (.aload_n 0, 1) := by decide +kernel
theorem dX5_init_5 : decode cX5_init 5 = .ok (.new 7, 3) := by decide +kernel
theorem dX5_init_8 : decode cX5_init 8 = .ok (.dup, 1) := by decide +kernel
theorem dX5_init_9 : decode cX5_init 9 = .ok (.iload_n 1, 1) := by decide +kernel
theorem dX5_init_10 : decode cX5_init 10 = .ok (.invokespecial 9, 3) := by decide +kernel
theorem dX5_init_13 : decode cX5_init 13 = .ok (.putfield 12, 3) := by decide +kernel
theorem dX5_init_16 : decode cX5_init 16 = .ok (.return_, 1) := by decide +kernel
theorem dX5_byteAt_0 : decode cX5_byteAt 0 = .ok (.aload_n 0, 1) := by decide +kernel
theorem dX5_byteAt_1 : decode cX5_byteAt 1 = .ok (.getfield 12, 3) := by decide +kernel
theorem dX5_byteAt_4 : decode cX5_byteAt 4 = .ok (.iload_n 1, 1) := by decide +kernel
theorem dX5_byteAt_5 : decode cX5_byteAt 5 = .ok (.invokevirtual 18, 3) := by decide +kernel
theorem dX5_byteAt_8 : decode cX5_byteAt 8 = .ok (.ireturn, 1) := by decide +kernel
theorem dX5_append_0 : decode cX5_append 0 = .ok (.aload_n 0, 1) := by decide +kernel
theorem dX5_append_1 : decode cX5_append 1 = .ok (.getfield 12, 3) := by decide +kernel
theorem dX5_append_4 : decode cX5_append 4 = .ok (.aload_n 0, 1) := by decide +kernel
theorem dX5_append_5 : decode cX5_append 5 = .ok (.getfield 22, 3) := by decide +kernel
theorem dX5_append_8 : decode cX5_append 8 = .ok (.iload_n 1, 1) := by decide +kernel
theorem dX5_append_9 : decode cX5_append 9 = .ok (.invokevirtual 26, 3) := by decide +kernel
theorem dX5_append_12 : decode cX5_append 12 = .ok (.aload_n 0, 1) := by decide +kernel
theorem dX5_append_13 : decode cX5_append 13 = .ok (.dup, 1) := by decide +kernel
theorem dX5_append_14 : decode cX5_append 14 = .ok (.getfield 22, 3) := by decide +kernel
theorem dX5_append_17 : decode cX5_append 17 = .ok (.iconst 1, 1) := by decide +kernel
theorem dX5_append_18 : decode cX5_append 18 = .ok (.iadd, 1) := by decide +kernel
theorem dX5_append_19 : decode cX5_append 19 = .ok (.putfield 22, 3) := by decide +kernel
theorem dX5_append_22 : decode cX5_append 22 = .ok (.return_, 1) := by decide +kernel
theorem dX5_appendNumber_0 : decode cX5_appendNumber 0 = .ok (.iload_n 1, 1) := by decide +kernel
theorem dX5_appendNumber_1 : decode cX5_appendNumber 1 = .ok (.bipush 10, 2) := by decide +kernel
theorem dX5_appendNumber_3 : decode cX5_appendNumber 3 = .ok (.if_icmp .lt 14, 3) := by decide +kernel
theorem dX5_appendNumber_6 : decode cX5_appendNumber 6 = .ok (.aload_n 0, 1) := by decide +kernel
theorem dX5_appendNumber_7 : decode cX5_appendNumber 7 = .ok (.bipush 48, 2) := by decide +kernel
theorem dX5_appendNumber_9 : decode cX5_appendNumber 9 = .ok (.iload_n 1, 1) := by decide +kernel
theorem dX5_appendNumber_10 : decode cX5_appendNumber 10 = .ok (.bipush 10, 2) := by decide +kernel
theorem dX5_appendNumber_12 : decode cX5_appendNumber 12 = .ok (.idiv, 1) := by decide +kernel
theorem dX5_appendNumber_13 : decode cX5_appendNumber 13 = .ok (.iadd, 1) := by decide +kernel
theorem dX5_appendNumber_14 : decode cX5_appendNumber 14 = .ok (.invokevirtual 30, 3) := by decide +kernel
theorem dX5_appendNumber_17 : decode cX5_appendNumber 17 = .ok (.aload_n 0, 1) := by decide +kernel
theorem dX5_appendNumber_18 : decode cX5_appendNumber 18 = .ok (.bipush 48, 2) := by decide +kernel
theorem dX5_appendNumber_20 : decode cX5_appendNumber 20 = .ok (.iload_n 1, 1) := by decide +kernel
theorem dX5_appendNumber_21 : decode cX5_appendNumber 21 = .ok (.bipush 10, 2) := by decide +kernel
theorem dX5_appendNumber_23 : decode cX5_appendNumber 23 = .ok (.irem, 1) := by decide +kernel
theorem dX5_appendNumber_24 : decode cX5_appendNumber 24 = .ok (.iadd, 1) := by decide +kernel
theorem dX5_appendNumber_25 : decode cX5_appendNumber 25 = .ok (.invokevirtual 30, 3) := by decide +kernel
theorem dX5_appendNumber_28 : decode cX5_appendNumber 28 = .ok (.return_, 1) := by decide +kernel
theorem dX6_init_0 : decode cX6_init 0 = .ok (.aload_n 0, 1) := by decide +kernel
theorem dX6_init_1 : decode cX6_init 1 = .ok (.invokespecial 1, 3) := by decide +kernel
theorem dX6_init_4 : decode cX6_init 4 = .ok (.aload_n 0, 1) := by decide +kernel
theorem dX6_init_5 : decode cX6_init 5 = .ok (.new 7, 3) := by decide +kernel
theorem dX6_init_8 : decode cX6_init 8 = .ok (.dup, 1) := by decide +kernel
theorem dX6_init_9 : decode cX6_init 9 = .ok (.invokespecial 9, 3) := by decide +kernel
theorem dX6_init_12 : decode cX6_init 12 = .ok (.putfield 10, 3) := by decide +kernel
theorem dX6_init_15 : decode cX6_init 15 = .ok (.aload_n 0, 1) := by decide +kernel
theorem dX6_init_16 : decode cX6_init 16 = .ok (.new 7, 3) := by decide +kernel
theorem dX6_init_19 : decode cX6_init 19 = .ok (.dup, 1) := by decide +kernel
theorem dX6_init_20 : decode cX6_init 20 = .ok (.invokespecial 9, 3) := by decide +kernel
theorem dX6_init_23 : decode cX6_init 23 = .ok (.putfield 16, 3) := by decide +kernel
theorem dX6_init_26 : decode cX6_init 26 = .ok (.aload_n 0, 1) := by decide +kernel
theorem dX6_init_27 : decode cX6_init 27 = .ok (.new 19, 3) := by decide +kernel
theorem dX6_init_30 : decode cX6_init 30 = .ok (.dup, 1) := by decide +kernel
theorem dX6_init_31 : decode cX6_init 31 = .ok (.aload_n 0, 1) := by decide +kernel
theorem dX6_init_32 : decode cX6_init 32 = .ok (.getfield 10, 3) := by decide +kernel
theorem dX6_init_35 : decode cX6_init 35 = .ok (.invokespecial 21, 3) := by decide +kernel
theorem dX6_init_38 : decode cX6_init 38 = .ok (.putfield 24, 3) := by decide +kernel
theorem dX6_init_41 : decode cX6_init 41 = .ok (.aload_n 0, 1) := by decide +kernel
theorem dX6_init_42 : decode cX6_init 42 = .ok (.new 28, 3) := by decide +kernel
theorem dX6_init_45 : decode cX6_init 45 = .ok (.dup, 1) := by decide +kernel
theorem dX6_init_46 : decode cX6_init 46 = .ok (.aload_n 0, 1) := by decide +kernel
theorem dX6_init_47 : decode cX6_init 47 = .ok (.getfield 10, 3) := by decide +kernel
theorem dX6_init_50 : decode cX6_init 50 = .ok (.aload_n 0, 1) := by decide +kernel
theorem dX6_init_51 : decode cX6_init 51 = .ok (.getfield 24, 3) := by decide +kernel
theorem dX6_init_54 : decode cX6_init 54 = .ok (.invokespecial 30, 3) := by decide +kernel
theorem dX6_init_57 : decode cX6_init 57 = .ok (.putfield 33, 3) := by decide +kernel
theorem dX6_init_60 : decode cX6_init 60 = .ok (.aload_n 0, 1) := by decide +kernel
theorem dX6_init_61 : decode cX6_init 61 = .ok (.new 37, 3) := by decide +kernel
theorem dX6_init_64 : decode cX6_init 64 = .ok (.dup, 1) := by decide +kernel
theorem dX6_init_65 : decode cX6_init 65 = .ok (.bipush 40, 2) := by decide +kernel
theorem dX6_init_67 : decode cX6_init 67 = .ok (.invokespecial 39, 3) := by decide +kernel
theorem dX6_init_70 : decode cX6_init 70 = .ok (.putfield 42, 3) := by decide +kernel
theorem dX6_init_73 : decode cX6_init 73 = .ok (.aload_n 0, 1) := by decide +kernel
theorem dX6_init_74 : decode cX6_init 74 = .ok (.new 37, 3) := by decide +kernel
theorem dX6_init_77 : decode cX6_init 77 = .ok (.dup, 1) := by decide +kernel
theorem dX6_init_78 : decode cX6_init 78 = .ok (.bipush 96, 2) := by decide +kernel
theorem dX6_init_80 : decode cX6_init 80 = .ok (.invokespecial 39, 3) := by decide +kernel
theorem dX6_init_83 : decode cX6_init 83 = .ok (.putfield 46, 3) := by decide +kernel
theorem dX6_init_86 : decode cX6_init 86 = .ok (.aload_n 0, 1) := by decide +kernel
theorem dX6_init_87 : decode cX6_init 87 = .ok (.new 49, 3) := by decide +kernel
theorem dX6_init_90 : decode cX6_init 90 = .ok (.dup, 1) := by decide +kernel
theorem dX6_init_91 : decode cX6_init 91 = .ok (.invokespecial 51, 3) := by decide +kernel
theorem dX6_init_94 : decode cX6_init 94 = .ok (.putfield 52, 3) := by decide +kernel
theorem dX6_init_97 : decode cX6_init 97 = .ok (.return_, 1) := by decide +kernel
theorem dX6_join_0 : decode cX6_join 0 = .ok (.iload_n 1, 1) := by decide +kernel
theorem dX6_join_1 : decode cX6_join 1 = .ok (.invokestatic 56, 3) := by decide +kernel
theorem dX6_join_4 : decode cX6_join 4 = .ok (.ifCond .ne 6, 3) := by decide +kernel
theorem dX6_join_7 : decode cX6_join 7 = .ok (.bipush (-2), 2) := by decide +kernel
theorem dX6_join_9 : decode cX6_join 9 = .ok (.ireturn, 1) := by decide +kernel
theorem dX6_join_10 : decode cX6_join 10 = .ok (.aload_n 0, 1) := by decide +kernel
theorem dX6_join_11 : decode cX6_join 11 = .ok (.getfield 10, 3) := by decide +kernel
theorem dX6_join_14 : decode cX6_join 14 = .ok (.getfield 60, 3) := by decide +kernel
theorem dX6_join_17 : decode cX6_join 17 = .ok (.ifCond .eq 6, 3) := by decide +kernel
theorem dX6_join_20 : decode cX6_join 20 = .ok (.bipush (-3), 2) := by decide +kernel
theorem dX6_join_22 : decode cX6_join 22 = .ok (.ireturn, 1) := by decide +kernel
theorem dX6_join_23 : decode cX6_join 23 = .ok (.aload_n 0, 1) := by decide +kernel
theorem dX6_join_24 : decode cX6_join 24 = .ok (.getfield 10, 3) := by decide +kernel
theorem dX6_join_27 : decode cX6_join 27 = .ok (.getfield 64, 3) := by decide +kernel
theorem dX6_join_30 : decode cX6_join 30 = .ok (.bipush 12, 2) := by decide +kernel
theorem dX6_join_32 : decode cX6_join 32 = .ok (.if_icmp .lt 6, 3) := by decide +kernel
theorem dX6_join_35 : decode cX6_join 35 = .ok (.bipush (-4), 2) := by decide +kernel
theorem dX6_join_37 : decode cX6_join 37 = .ok (.ireturn, 1) := by decide +kernel
theorem dX6_join_38 : decode cX6_join 38 = .ok (.aload_n 0, 1) := by decide +kernel
theorem dX6_join_39 : decode cX6_join 39 = .ok (.getfield 10, 3) := by decide +kernel
theorem dX6_join_42 : decode cX6_join 42 = .ok (.iload_n 1, 1) := by decide +kernel
theorem dX6_join_43 : decode cX6_join 43 = .ok (.invokevirtual 68, 3) := by decide +kernel
theorem dX6_join_46 : decode cX6_join 46 = .ok (.istore_n 2, 1) := by decide +kernel
theorem dX6_join_47 : decode cX6_join 47 = .ok (.aload_n 0, 1) := by decide +kernel
theorem dX6_join_48 : decode cX6_join 48 = .ok (.getfield 24, 3) := by decide +kernel
theorem dX6_join_51 : decode cX6_join 51 = .ok (.invokevirtual 72, 3) := by decide +kernel
theorem dX6_join_54 : decode cX6_join 54 = .ok (.iload_n 2, 1) := by decide +kernel
theorem dX6_join_55 : decode cX6_join 55 = .ok (.ireturn, 1) := by decide +kernel
theorem dX6_leave_0 : decode cX6_leave 0 = .ok (.aload_n 0, 1) := by decide +kernel
theorem dX6_leave_1 : decode cX6_leave 1 = .ok (.iload_n 1, 1) := by decide +kernel
theorem dX6_leave_2 : decode cX6_leave 2 = .ok (.iconst 0, 1) := by decide +kernel
theorem dX6_leave_3 : decode cX6_leave 3 = .ok (.invokevirtual 75, 3) := by decide +kernel
theorem dX6_leave_6 : decode cX6_leave 6 = .ok (.ireturn, 1) := by decide +kernel
theorem dX6_back_0 : decode cX6_back 0 = .ok (.aload_n 0, 1) := by decide +kernel
theorem dX6_back_1 : decode cX6_back 1 = .ok (.iload_n 1, 1) := by decide +kernel
theorem dX6_back_2 : decode cX6_back 2 = .ok (.iconst 1, 1) := by decide +kernel
theorem dX6_back_3 : decode cX6_back 3 = .ok (.invokevirtual 75, 3) := by decide +kernel
theorem dX6_back_6 : decode cX6_back 6 = .ok (.ireturn, 1) := by decide +kernel
theorem dX6_move_0 : decode cX6_move 0 = .ok (.aload_n 0, 1) := by decide +kernel
theorem dX6_move_1 : decode cX6_move 1 = .ok (.iload_n 1, 1) := by decide +kernel
theorem dX6_move_2 : decode cX6_move 2 = .ok (.invokevirtual 79, 3) := by decide +kernel
theorem dX6_move_5 : decode cX6_move 5 = .ok (.ifCond .ne 5, 3) := by decide +kernel
theorem dX6_move_8 : decode cX6_move 8 = .ok (.iconst (-1), 1) := by decide +kernel
theorem dX6_move_9 : decode cX6_move 9 = .ok (.ireturn, 1) := by decide +kernel
theorem dX6_move_10 : decode cX6_move 10 = .ok (.aload_n 0, 1) := by decide +kernel
theorem dX6_move_11 : decode cX6_move 11 = .ok (.getfield 10, 3) := by decide +kernel
theorem dX6_move_14 : decode cX6_move 14 = .ok (.getfield 82, 3) := by decide +kernel
theorem dX6_move_17 : decode cX6_move 17 = .ok (.iload_n 1, 1) := by decide +kernel
theorem dX6_move_18 : decode cX6_move 18 = .ok (.invokevirtual 86, 3) := by decide +kernel
theorem dX6_move_21 : decode cX6_move 21 = .ok (.iload_n 2, 1) := by decide +kernel
theorem dX6_move_22 : decode cX6_move 22 = .ok (.if_icmp .eq 13, 3) := by decide +kernel
theorem dX6_move_25 : decode cX6_move 25 = .ok (.aload_n 0, 1) := by decide +kernel
theorem dX6_move_26 : decode cX6_move 26 = .ok (.getfield 10, 3) := by decide +kernel
theorem dX6_move_29 : decode cX6_move 29 = .ok (.getfield 60, 3) := by decide +kernel
theorem dX6_move_32 : decode cX6_move 32 = .ok (.ifCond .eq 6, 3) := by decide +kernel
theorem dX6_move_35 : decode cX6_move 35 = .ok (.bipush (-3), 2) := by decide +kernel
theorem dX6_move_37 : decode cX6_move 37 = .ok (.ireturn, 1) := by decide +kernel
theorem dX6_move_38 : decode cX6_move 38 = .ok (.aload_n 0, 1) := by decide +kernel
theorem dX6_move_39 : decode cX6_move 39 = .ok (.getfield 10, 3) := by decide +kernel
theorem dX6_move_42 : decode cX6_move 42 = .ok (.getfield 82, 3) := by decide +kernel
theorem dX6_move_45 : decode cX6_move 45 = .ok (.iload_n 1, 1) := by decide +kernel
theorem dX6_move_46 : decode cX6_move 46 = .ok (.iload_n 2, 1) := by decide +kernel
theorem dX6_move_47 : decode cX6_move 47 = .ok (.invokevirtual 91, 3) := by decide +kernel
theorem dX6_move_50 : decode cX6_move 50 = .ok (.aload_n 0, 1) := by decide +kernel
theorem dX6_move_51 : decode cX6_move 51 = .ok (.getfield 10, 3) := by decide +kernel
theorem dX6_move_54 : decode cX6_move 54 = .ok (.invokevirtual 95, 3) := by decide +kernel
theorem dX6_move_57 : decode cX6_move 57 = .ok (.ireturn, 1) := by decide +kernel
theorem dX6_rate_0 : decode cX6_rate 0 = .ok (.aload_n 0, 1) := by decide +kernel
theorem dX6_rate_1 : decode cX6_rate 1 = .ok (.iload_n 1, 1) := by decide +kernel
theorem dX6_rate_2 : decode cX6_rate 2 = .ok (.invokevirtual 79, 3) := by decide +kernel
theorem dX6_rate_5 : decode cX6_rate 5 = .ok (.ifCond .ne 5, 3) := by decide +kernel
theorem dX6_rate_8 : decode cX6_rate 8 = .ok (.iconst (-1), 1) := by decide +kernel
theorem dX6_rate_9 : decode cX6_rate 9 = .ok (.ireturn, 1) := by decide +kernel
theorem dX6_rate_10 : decode cX6_rate 10 = .ok (.iload_n 2, 1) := by decide +kernel
theorem dX6_rate_11 : decode cX6_rate 11 = .ok (.invokestatic 56, 3) := by decide +kernel
theorem dX6_rate_14 : decode cX6_rate 14 = .ok (.ifCond .ne 6, 3) := by decide +kernel
theorem dX6_rate_17 : decode cX6_rate 17 = .ok (.bipush (-2), 2) := by decide +kernel
theorem dX6_rate_19 : decode cX6_rate 19 = .ok (.ireturn, 1) := by decide +kernel
theorem dX6_rate_20 : decode cX6_rate 20 = .ok (.aload_n 0, 1) := by decide +kernel
theorem dX6_rate_21 : decode cX6_rate 21 = .ok (.getfield 10, 3) := by decide +kernel
theorem dX6_rate_24 : decode cX6_rate 24 = .ok (.getfield 99, 3) := by decide +kernel
theorem dX6_rate_27 : decode cX6_rate 27 = .ok (.iload_n 1, 1) := by decide +kernel
theorem dX6_rate_28 : decode cX6_rate 28 = .ok (.invokevirtual 86, 3) := by decide +kernel
theorem dX6_rate_31 : decode cX6_rate 31 = .ok (.istore_n 3, 1) := by decide +kernel
theorem dX6_rate_32 : decode cX6_rate 32 = .ok (.aload_n 0, 1) := by decide +kernel
theorem dX6_rate_33 : decode cX6_rate 33 = .ok (.getfield 10, 3) := by decide +kernel
theorem dX6_rate_36 : decode cX6_rate 36 = .ok (.getfield 99, 3) := by decide +kernel
theorem dX6_rate_39 : decode cX6_rate 39 = .ok (.iload_n 1, 1) := by decide +kernel
theorem dX6_rate_40 : decode cX6_rate 40 = .ok (.iload_n 2, 1) := by decide +kernel
theorem dX6_rate_41 : decode cX6_rate 41 = .ok (.invokevirtual 91, 3) := by decide +kernel
theorem dX6_rate_44 : decode cX6_rate 44 = .ok (.aload_n 0, 1) := by decide +kernel
theorem dX6_rate_45 : decode cX6_rate 45 = .ok (.getfield 24, 3) := by decide +kernel
theorem dX6_rate_48 : decode cX6_rate 48 = .ok (.invokevirtual 72, 3) := by decide +kernel
theorem dX6_rate_51 : decode cX6_rate 51 = .ok (.iload_n 3, 1) := by decide +kernel
theorem dX6_rate_52 : decode cX6_rate 52 = .ok (.ireturn, 1) := by decide +kernel
theorem dX6_of_0 : decode cX6_of 0 = .ok (.aload_n 0, 1) := by decide +kernel
theorem dX6_of_1 : decode cX6_of 1 = .ok (.iload_n 1, 1) := by decide +kernel
theorem dX6_of_2 : decode cX6_of 2 = .ok (.invokevirtual 79, 3) := by decide +kernel
theorem dX6_of_5 : decode cX6_of 5 = .ok (.ifCond .ne 5, 3) := by decide +kernel
theorem dX6_of_8 : decode cX6_of 8 = .ok (.iconst (-1), 1) := by decide +kernel
theorem dX6_of_9 : decode cX6_of 9 = .ok (.ireturn, 1) := by decide +kernel
theorem dX6_of_10 : decode cX6_of 10 = .ok (.iload_n 2, 1) := by decide +kernel
theorem dX6_of_11 : decode cX6_of 11 = .ok (.tableswitch 155 0 8 #[49, 61, 73, 83, 95, 110, 122, 134, 146], 49) := by decide +kernel
theorem dX6_of_60 : decode cX6_of 60 = .ok (.aload_n 0, 1) := by decide +kernel
theorem dX6_of_61 : decode cX6_of 61 = .ok (.getfield 10, 3) := by decide +kernel
theorem dX6_of_64 : decode cX6_of 64 = .ok (.getfield 99, 3) := by decide +kernel
theorem dX6_of_67 : decode cX6_of 67 = .ok (.iload_n 1, 1) := by decide +kernel
theorem dX6_of_68 : decode cX6_of 68 = .ok (.invokevirtual 86, 3) := by decide +kernel
theorem dX6_of_71 : decode cX6_of 71 = .ok (.ireturn, 1) := by decide +kernel
theorem dX6_of_72 : decode cX6_of 72 = .ok (.aload_n 0, 1) := by decide +kernel
theorem dX6_of_73 : decode cX6_of 73 = .ok (.getfield 10, 3) := by decide +kernel
theorem dX6_of_76 : decode cX6_of 76 = .ok (.getfield 82, 3) := by decide +kernel
theorem dX6_of_79 : decode cX6_of 79 = .ok (.iload_n 1, 1) := by decide +kernel
theorem dX6_of_80 : decode cX6_of 80 = .ok (.invokevirtual 86, 3) := by decide +kernel
theorem dX6_of_83 : decode cX6_of 83 = .ok (.ireturn, 1) := by decide +kernel
theorem dX6_of_84 : decode cX6_of 84 = .ok (.aload_n 0, 1) := by decide +kernel
theorem dX6_of_85 : decode cX6_of 85 = .ok (.getfield 24, 3) := by decide +kernel
theorem dX6_of_88 : decode cX6_of 88 = .ok (.iload_n 1, 1) := by decide +kernel
theorem dX6_of_89 : decode cX6_of 89 = .ok (.iconst 0, 1) := by decide +kernel
theorem dX6_of_90 : decode cX6_of 90 = .ok (.invokevirtual 102, 3) := by decide +kernel
theorem dX6_of_93 : decode cX6_of 93 = .ok (.ireturn, 1) := by decide +kernel
theorem dX6_of_94 : decode cX6_of 94 = .ok (.aload_n 0, 1) := by decide +kernel
theorem dX6_of_95 : decode cX6_of 95 = .ok (.getfield 24, 3) := by decide +kernel
theorem dX6_of_98 : decode cX6_of 98 = .ok (.getfield 105, 3) := by decide +kernel
theorem dX6_of_101 : decode cX6_of 101 = .ok (.iload_n 1, 1) := by decide +kernel
theorem dX6_of_102 : decode cX6_of 102 = .ok (.invokevirtual 86, 3) := by decide +kernel
theorem dX6_of_105 : decode cX6_of 105 = .ok (.ireturn, 1) := by decide +kernel
theorem dX6_of_106 : decode cX6_of 106 = .ok (.aload_n 0, 1) := by decide +kernel
theorem dX6_of_107 : decode cX6_of 107 = .ok (.getfield 24, 3) := by decide +kernel
theorem dX6_of_110 : decode cX6_of 110 = .ok (.getfield 108, 3) := by decide +kernel
theorem dX6_of_113 : decode cX6_of 113 = .ok (.iload_n 1, 1) := by decide +kernel
theorem dX6_of_114 : decode cX6_of 114 = .ok (.invokevirtual 86, 3) := by decide +kernel
theorem dX6_of_117 : decode cX6_of 117 = .ok (.bipush 100, 2) := by decide +kernel
theorem dX6_of_119 : decode cX6_of 119 = .ok (.iadd, 1) := by decide +kernel
theorem dX6_of_120 : decode cX6_of 120 = .ok (.ireturn, 1) := by decide +kernel
theorem dX6_of_121 : decode cX6_of 121 = .ok (.aload_n 0, 1) := by decide +kernel
theorem dX6_of_122 : decode cX6_of 122 = .ok (.getfield 24, 3) := by decide +kernel
theorem dX6_of_125 : decode cX6_of 125 = .ok (.getfield 111, 3) := by decide +kernel
theorem dX6_of_128 : decode cX6_of 128 = .ok (.iload_n 1, 1) := by decide +kernel
theorem dX6_of_129 : decode cX6_of 129 = .ok (.invokevirtual 86, 3) := by decide +kernel
theorem dX6_of_132 : decode cX6_of 132 = .ok (.ireturn, 1) := by decide +kernel
theorem dX6_of_133 : decode cX6_of 133 = .ok (.aload_n 0, 1) := by decide +kernel
theorem dX6_of_134 : decode cX6_of 134 = .ok (.getfield 24, 3) := by decide +kernel
theorem dX6_of_137 : decode cX6_of 137 = .ok (.getfield 114, 3) := by decide +kernel
theorem dX6_of_140 : decode cX6_of 140 = .ok (.iload_n 1, 1) := by decide +kernel
theorem dX6_of_141 : decode cX6_of 141 = .ok (.invokevirtual 86, 3) := by decide +kernel
theorem dX6_of_144 : decode cX6_of 144 = .ok (.ireturn, 1) := by decide +kernel
theorem dX6_of_145 : decode cX6_of 145 = .ok (.aload_n 0, 1) := by decide +kernel
theorem dX6_of_146 : decode cX6_of 146 = .ok (.getfield 24, 3) := by decide +kernel
theorem dX6_of_149 : decode cX6_of 149 = .ok (.getfield 117, 3) := by decide +kernel
theorem dX6_of_152 : decode cX6_of 152 = .ok (.iload_n 1, 1) := by decide +kernel
theorem dX6_of_153 : decode cX6_of 153 = .ok (.invokevirtual 86, 3) := by decide +kernel
theorem dX6_of_156 : decode cX6_of 156 = .ok (.ireturn, 1) := by decide +kernel
theorem dX6_of_157 : decode cX6_of 157 = .ok (.aload_n 0, 1) := by decide +kernel
theorem dX6_of_158 : decode cX6_of 158 = .ok (.getfield 24, 3) := by decide +kernel
theorem dX6_of_161 : decode cX6_of 161 = .ok (.iload_n 1, 1) := by decide +kernel
theorem dX6_of_162 : decode cX6_of 162 = .ok (.invokevirtual 120, 3) := by decide +kernel
theorem dX6_of_165 : decode cX6_of 165 = .ok (.ireturn, 1) := by decide +kernel
theorem dX6_of_166 : decode cX6_of 166 = .ok (.iconst (-1), 1) := by decide +kernel
theorem dX6_of_167 : decode cX6_of 167 = .ok (.ireturn, 1) := by decide +kernel
theorem dX6_tie_0 : decode cX6_tie 0 = .ok (.aload_n 0, 1) := by decide +kernel
theorem dX6_tie_1 : decode cX6_tie 1 = .ok (.iload_n 1, 1) := by decide +kernel
theorem dX6_tie_2 : decode cX6_tie 2 = .ok (.invokevirtual 79, 3) := by decide +kernel
theorem dX6_tie_5 : decode cX6_tie 5 = .ok (.ifCond .eq 13, 3) := by decide +kernel
theorem dX6_tie_8 : decode cX6_tie 8 = .ok (.iload_n 2, 1) := by decide +kernel
theorem dX6_tie_9 : decode cX6_tie 9 = .ok (.ifCond .lt 9, 3) := by decide +kernel
theorem dX6_tie_12 : decode cX6_tie 12 = .ok (.iload_n 2, 1) := by decide +kernel
theorem dX6_tie_13 : decode cX6_tie 13 = .ok (.bipush 9, 2) := by decide +kernel
theorem dX6_tie_15 : decode cX6_tie 15 = .ok (.if_icmp .lt 5, 3) := by decide +kernel
theorem dX6_tie_18 : decode cX6_tie 18 = .ok (.iconst (-1), 1) := by decide +kernel
theorem dX6_tie_19 : decode cX6_tie 19 = .ok (.ireturn, 1) := by decide +kernel
theorem dX6_tie_20 : decode cX6_tie 20 = .ok (.aload_n 0, 1) := by decide +kernel
theorem dX6_tie_21 : decode cX6_tie 21 = .ok (.getfield 24, 3) := by decide +kernel
theorem dX6_tie_24 : decode cX6_tie 24 = .ok (.iload_n 1, 1) := by decide +kernel
theorem dX6_tie_25 : decode cX6_tie 25 = .ok (.iload_n 2, 1) := by decide +kernel
theorem dX6_tie_26 : decode cX6_tie 26 = .ok (.invokevirtual 102, 3) := by decide +kernel
theorem dX6_tie_29 : decode cX6_tie 29 = .ok (.ireturn, 1) := by decide +kernel
theorem dX6_rank_0 : decode cX6_rank 0 = .ok (.aload_n 0, 1) := by decide +kernel
theorem dX6_rank_1 : decode cX6_rank 1 = .ok (.iload_n 1, 1) := by decide +kernel
theorem dX6_rank_2 : decode cX6_rank 2 = .ok (.invokevirtual 79, 3) := by decide +kernel
theorem dX6_rank_5 : decode cX6_rank 5 = .ok (.ifCond .eq 14, 3) := by decide +kernel
theorem dX6_rank_8 : decode cX6_rank 8 = .ok (.aload_n 0, 1) := by decide +kernel
theorem dX6_rank_9 : decode cX6_rank 9 = .ok (.getfield 24, 3) := by decide +kernel
theorem dX6_rank_12 : decode cX6_rank 12 = .ok (.iload_n 1, 1) := by decide +kernel
theorem dX6_rank_13 : decode cX6_rank 13 = .ok (.invokevirtual 123, 3) := by decide +kernel
theorem dX6_rank_16 : decode cX6_rank 16 = .ok (.goto 4, 3) := by decide +kernel
theorem dX6_rank_19 : decode cX6_rank 19 = .ok (.iconst (-1), 1) := by decide +kernel
theorem dX6_rank_20 : decode cX6_rank 20 = .ok (.ireturn, 1) := by decide +kernel
theorem dX6_nth_0 : decode cX6_nth 0 = .ok (.aload_n 0, 1) := by decide +kernel
theorem dX6_nth_1 : decode cX6_nth 1 = .ok (.iload_n 1, 1) := by decide +kernel
theorem dX6_nth_2 : decode cX6_nth 2 = .ok (.invokevirtual 79, 3) := by decide +kernel
theorem dX6_nth_5 : decode cX6_nth 5 = .ok (.ifCond .eq 17, 3) := by decide +kernel
theorem dX6_nth_8 : decode cX6_nth 8 = .ok (.aload_n 0, 1) := by decide +kernel
theorem dX6_nth_9 : decode cX6_nth 9 = .ok (.getfield 24, 3) := by decide +kernel
theorem dX6_nth_12 : decode cX6_nth 12 = .ok (.getfield 126, 3) := by decide +kernel
theorem dX6_nth_15 : decode cX6_nth 15 = .ok (.iload_n 1, 1) := by decide +kernel
theorem dX6_nth_16 : decode cX6_nth 16 = .ok (.invokevirtual 86, 3) := by decide +kernel
theorem dX6_nth_19 : decode cX6_nth 19 = .ok (.goto 4, 3) := by decide +kernel
theorem dX6_nth_22 : decode cX6_nth 22 = .ok (.iconst (-1), 1) := by decide +kernel
theorem dX6_nth_23 : decode cX6_nth 23 = .ok (.ireturn, 1) := by decide +kernel
theorem dX6_explain_0 : decode cX6_explain 0 = .ok (.aload_n 0, 1) := by decide +kernel
theorem dX6_explain_1 : decode cX6_explain 1 = .ok (.iload_n 1, 1) := by decide +kernel
theorem dX6_explain_2 : decode cX6_explain 2 = .ok (.iload_n 2, 1) := by decide +kernel
theorem dX6_explain_3 : decode cX6_explain 3 = .ok (.invokevirtual 129, 3) := by decide +kernel
theorem dX6_explain_6 : decode cX6_explain 6 = .ok (.ifCond .eq 12, 3) := by decide +kernel
theorem dX6_explain_9 : decode cX6_explain 9 = .ok (.iload_n 3, 1) := by decide +kernel
theorem dX6_explain_10 : decode cX6_explain 10 = .ok (.ifCond .lt 8, 3) := by decide +kernel
theorem dX6_explain_13 : decode cX6_explain 13 = .ok (.iload_n 3, 1) := by decide +kernel
theorem dX6_explain_14 : decode cX6_explain 14 = .ok (.iconst 1, 1) := by decide +kernel
theorem dX6_explain_15 : decode cX6_explain 15 = .ok (.if_icmp .le 5, 3) := by decide +kernel
theorem dX6_explain_18 : decode cX6_explain 18 = .ok (.iconst (-1), 1) := by decide +kernel
theorem dX6_explain_19 : decode cX6_explain 19 = .ok (.ireturn, 1) := by decide +kernel
theorem dX6_explain_20 : decode cX6_explain 20 = .ok (.aload_n 0, 1) := by decide +kernel
theorem dX6_explain_21 : decode cX6_explain 21 = .ok (.getfield 24, 3) := by decide +kernel
theorem dX6_explain_24 : decode cX6_explain 24 = .ok (.iload_n 1, 1) := by decide +kernel
theorem dX6_explain_25 : decode cX6_explain 25 = .ok (.iload_n 2, 1) := by decide +kernel
theorem dX6_explain_26 : decode cX6_explain 26 = .ok (.invokevirtual 133, 3) := by decide +kernel
theorem dX6_explain_29 : decode cX6_explain 29 = .ok (.istore 4, 2) := by decide +kernel
theorem dX6_explain_31 : decode cX6_explain 31 = .ok (.iload_n 3, 1) := by decide +kernel
theorem dX6_explain_32 : decode cX6_explain 32 = .ok (.ifCond .ne 6, 3) := by decide +kernel
theorem dX6_explain_35 : decode cX6_explain 35 = .ok (.iload 4, 2) := by decide +kernel
theorem dX6_explain_37 : decode cX6_explain 37 = .ok (.ireturn, 1) := by decide +kernel
theorem dX6_explain_38 : decode cX6_explain 38 = .ok (.iload 4, 2) := by decide +kernel
theorem dX6_explain_40 : decode cX6_explain 40 = .ok (.bipush (-5), 2) := by decide +kernel
theorem dX6_explain_42 : decode cX6_explain 42 = .ok (.if_icmp .ne 7, 3) := by decide +kernel
theorem dX6_explain_45 : decode cX6_explain 45 = .ok (.iload_n 2, 1) := by decide +kernel
theorem dX6_explain_46 : decode cX6_explain 46 = .ok (.iload_n 1, 1) := by decide +kernel
theorem dX6_explain_47 : decode cX6_explain 47 = .ok (.isub, 1) := by decide +kernel
theorem dX6_explain_48 : decode cX6_explain 48 = .ok (.ireturn, 1) := by decide +kernel
theorem dX6_explain_49 : decode cX6_explain 49 = .ok (.aload_n 0, 1) := by decide +kernel
theorem dX6_explain_50 : decode cX6_explain 50 = .ok (.getfield 24, 3) := by decide +kernel
theorem dX6_explain_53 : decode cX6_explain 53 = .ok (.iload_n 1, 1) := by decide +kernel
theorem dX6_explain_54 : decode cX6_explain 54 = .ok (.iload 4, 2) := by decide +kernel
theorem dX6_explain_56 : decode cX6_explain 56 = .ok (.invokevirtual 102, 3) := by decide +kernel
theorem dX6_explain_59 : decode cX6_explain 59 = .ok (.aload_n 0, 1) := by decide +kernel
theorem dX6_explain_60 : decode cX6_explain 60 = .ok (.getfield 24, 3) := by decide +kernel
theorem dX6_explain_63 : decode cX6_explain 63 = .ok (.iload_n 2, 1) := by decide +kernel
theorem dX6_explain_64 : decode cX6_explain 64 = .ok (.iload 4, 2) := by decide +kernel
theorem dX6_explain_66 : decode cX6_explain 66 = .ok (.invokevirtual 102, 3) := by decide +kernel
theorem dX6_explain_69 : decode cX6_explain 69 = .ok (.isub, 1) := by decide +kernel
theorem dX6_explain_70 : decode cX6_explain 70 = .ok (.ireturn, 1) := by decide +kernel
theorem dX6_alike_0 : decode cX6_alike 0 = .ok (.aload_n 0, 1) := by decide +kernel
theorem dX6_alike_1 : decode cX6_alike 1 = .ok (.iload_n 1, 1) := by decide +kernel
theorem dX6_alike_2 : decode cX6_alike 2 = .ok (.invokevirtual 79, 3) := by decide +kernel
theorem dX6_alike_5 : decode cX6_alike 5 = .ok (.ifCond .ne 5, 3) := by decide +kernel
theorem dX6_alike_8 : decode cX6_alike 8 = .ok (.iconst (-1), 1) := by decide +kernel
theorem dX6_alike_9 : decode cX6_alike 9 = .ok (.ireturn, 1) := by decide +kernel
theorem dX6_alike_10 : decode cX6_alike 10 = .ok (.aload_n 0, 1) := by decide +kernel
theorem dX6_alike_11 : decode cX6_alike 11 = .ok (.getfield 24, 3) := by decide +kernel
theorem dX6_alike_14 : decode cX6_alike 14 = .ok (.aload_n 0, 1) := by decide +kernel
theorem dX6_alike_15 : decode cX6_alike 15 = .ok (.getfield 24, 3) := by decide +kernel
theorem dX6_alike_18 : decode cX6_alike 18 = .ok (.getfield 126, 3) := by decide +kernel
theorem dX6_alike_21 : decode cX6_alike 21 = .ok (.iload_n 1, 1) := by decide +kernel
theorem dX6_alike_22 : decode cX6_alike 22 = .ok (.invokevirtual 86, 3) := by decide +kernel
theorem dX6_alike_25 : decode cX6_alike 25 = .ok (.iconst 0, 1) := by decide +kernel
theorem dX6_alike_26 : decode cX6_alike 26 = .ok (.invokevirtual 102, 3) := by decide +kernel
theorem dX6_alike_29 : decode cX6_alike 29 = .ok (.istore_n 2, 1) := by decide +kernel
theorem dX6_alike_30 : decode cX6_alike 30 = .ok (.iconst 0, 1) := by decide +kernel
theorem dX6_alike_31 : decode cX6_alike 31 = .ok (.istore_n 3, 1) := by decide +kernel
theorem dX6_alike_32 : decode cX6_alike 32 = .ok (.iconst 0, 1) := by decide +kernel
theorem dX6_alike_33 : decode cX6_alike 33 = .ok (.istore 4, 2) := by decide +kernel
theorem dX6_alike_35 : decode cX6_alike 35 = .ok (.iload 4, 2) := by decide +kernel
theorem dX6_alike_37 : decode cX6_alike 37 = .ok (.aload_n 0, 1) := by decide +kernel
theorem dX6_alike_38 : decode cX6_alike 38 = .ok (.getfield 10, 3) := by decide +kernel
theorem dX6_alike_41 : decode cX6_alike 41 = .ok (.getfield 64, 3) := by decide +kernel
theorem dX6_alike_44 : decode cX6_alike 44 = .ok (.if_icmp .ge 26, 3) := by decide +kernel
theorem dX6_alike_47 : decode cX6_alike 47 = .ok (.aload_n 0, 1) := by decide +kernel
theorem dX6_alike_48 : decode cX6_alike 48 = .ok (.getfield 24, 3) := by decide +kernel
theorem dX6_alike_51 : decode cX6_alike 51 = .ok (.iload 4, 2) := by decide +kernel
theorem dX6_alike_53 : decode cX6_alike 53 = .ok (.iconst 0, 1) := by decide +kernel
theorem dX6_alike_54 : decode cX6_alike 54 = .ok (.invokevirtual 102, 3) := by decide +kernel
theorem dX6_alike_57 : decode cX6_alike 57 = .ok (.iload_n 2, 1) := by decide +kernel
theorem dX6_alike_58 : decode cX6_alike 58 = .ok (.if_icmp .ne 6, 3) := by decide +kernel
theorem dX6_alike_61 : decode cX6_alike 61 = .ok (.iinc 3 1, 3) := by decide +kernel
theorem dX6_alike_64 : decode cX6_alike 64 = .ok (.iinc 4 1, 3) := by decide +kernel
theorem dX6_alike_67 : decode cX6_alike 67 = .ok (.goto (-32), 3) := by decide +kernel
theorem dX6_alike_70 : decode cX6_alike 70 = .ok (.iload_n 3, 1) := by decide +kernel
theorem dX6_alike_71 : decode cX6_alike 71 = .ok (.ireturn, 1) := by decide +kernel
theorem dX6_colours_0 : decode cX6_colours 0 = .ok (.iload_n 1, 1) := by decide +kernel
theorem dX6_colours_1 : decode cX6_colours 1 = .ok (.ifCond .lt 8, 3) := by decide +kernel
theorem dX6_colours_4 : decode cX6_colours 4 = .ok (.iload_n 1, 1) := by decide +kernel
theorem dX6_colours_5 : decode cX6_colours 5 = .ok (.iconst 2, 1) := by decide +kernel
theorem dX6_colours_6 : decode cX6_colours 6 = .ok (.if_icmp .le 5, 3) := by decide +kernel
theorem dX6_colours_9 : decode cX6_colours 9 = .ok (.iconst (-1), 1) := by decide +kernel
theorem dX6_colours_10 : decode cX6_colours 10 = .ok (.ireturn, 1) := by decide +kernel
theorem dX6_colours_11 : decode cX6_colours 11 = .ok (.iconst 0, 1) := by decide +kernel
theorem dX6_colours_12 : decode cX6_colours 12 = .ok (.istore_n 2, 1) := by decide +kernel
theorem dX6_colours_13 : decode cX6_colours 13 = .ok (.iconst 0, 1) := by decide +kernel
theorem dX6_colours_14 : decode cX6_colours 14 = .ok (.istore_n 3, 1) := by decide +kernel
theorem dX6_colours_15 : decode cX6_colours 15 = .ok (.iload_n 3, 1) := by decide +kernel
theorem dX6_colours_16 : decode cX6_colours 16 = .ok (.aload_n 0, 1) := by decide +kernel
theorem dX6_colours_17 : decode cX6_colours 17 = .ok (.getfield 10, 3) := by decide +kernel
theorem dX6_colours_20 : decode cX6_colours 20 = .ok (.getfield 64, 3) := by decide +kernel
theorem dX6_colours_23 : decode cX6_colours 23 = .ok (.if_icmp .ge 30, 3) := by decide +kernel
theorem dX6_colours_26 : decode cX6_colours 26 = .ok (.aload_n 0, 1) := by decide +kernel
theorem dX6_colours_27 : decode cX6_colours 27 = .ok (.getfield 24, 3) := by decide +kernel
theorem dX6_colours_30 : decode cX6_colours 30 = .ok (.getfield 108, 3) := by decide +kernel
theorem dX6_colours_33 : decode cX6_colours 33 = .ok (.iload_n 3, 1) := by decide +kernel
theorem dX6_colours_34 : decode cX6_colours 34 = .ok (.invokevirtual 86, 3) := by decide +kernel
theorem dX6_colours_37 : decode cX6_colours 37 = .ok (.iload_n 1, 1) := by decide +kernel
theorem dX6_colours_38 : decode cX6_colours 38 = .ok (.invokestatic 136, 3) := by decide +kernel
theorem dX6_colours_41 : decode cX6_colours 41 = .ok (.ifCond .eq 6, 3) := by decide +kernel
theorem dX6_colours_44 : decode cX6_colours 44 = .ok (.iinc 2 1, 3) := by decide +kernel
theorem dX6_colours_47 : decode cX6_colours 47 = .ok (.iinc 3 1, 3) := by decide +kernel
theorem dX6_colours_50 : decode cX6_colours 50 = .ok (.goto (-35), 3) := by decide +kernel
theorem dX6_colours_53 : decode cX6_colours 53 = .ok (.iload_n 2, 1) := by decide +kernel
theorem dX6_colours_54 : decode cX6_colours 54 = .ok (.ireturn, 1) := by decide +kernel
theorem dX6_isBalance_0 : decode cX6_isBalance 0 = .ok (.iload_n 1, 1) := by decide +kernel
theorem dX6_isBalance_1 : decode cX6_isBalance 1 = .ok (.ifCond .ne 13, 3) := by decide +kernel
theorem dX6_isBalance_4 : decode cX6_isBalance 4 = .ok (.iload_n 0, 1) := by decide +kernel
theorem dX6_isBalance_5 : decode cX6_isBalance 5 = .ok (.ifCond .le 7, 3) := by decide +kernel
theorem dX6_isBalance_8 : decode cX6_isBalance 8 = .ok (.iconst 1, 1) := by decide +kernel
theorem dX6_isBalance_9 : decode cX6_isBalance 9 = .ok (.goto 4, 3) := by decide +kernel
theorem dX6_isBalance_12 : decode cX6_isBalance 12 = .ok (.iconst 0, 1) := by decide +kernel
theorem dX6_isBalance_13 : decode cX6_isBalance 13 = .ok (.ireturn, 1) := by decide +kernel
theorem dX6_isBalance_14 : decode cX6_isBalance 14 = .ok (.iload_n 1, 1) := by decide +kernel
theorem dX6_isBalance_15 : decode cX6_isBalance 15 = .ok (.iconst 1, 1) := by decide +kernel
theorem dX6_isBalance_16 : decode cX6_isBalance 16 = .ok (.if_icmp .ne 13, 3) := by decide +kernel
theorem dX6_isBalance_19 : decode cX6_isBalance 19 = .ok (.iload_n 0, 1) := by decide +kernel
theorem dX6_isBalance_20 : decode cX6_isBalance 20 = .ok (.ifCond .ge 7, 3) := by decide +kernel
theorem dX6_isBalance_23 : decode cX6_isBalance 23 = .ok (.iconst 1, 1) := by decide +kernel
theorem dX6_isBalance_24 : decode cX6_isBalance 24 = .ok (.goto 4, 3) := by decide +kernel
theorem dX6_isBalance_27 : decode cX6_isBalance 27 = .ok (.iconst 0, 1) := by decide +kernel
theorem dX6_isBalance_28 : decode cX6_isBalance 28 = .ok (.ireturn, 1) := by decide +kernel
theorem dX6_isBalance_29 : decode cX6_isBalance 29 = .ok (.iload_n 0, 1) := by decide +kernel
theorem dX6_isBalance_30 : decode cX6_isBalance 30 = .ok (.iconst 1, 1) := by decide +kernel
theorem dX6_isBalance_31 : decode cX6_isBalance 31 = .ok (.if_icmp .gt 8, 3) := by decide +kernel
theorem dX6_isBalance_34 : decode cX6_isBalance 34 = .ok (.iload_n 0, 1) := by decide +kernel
theorem dX6_isBalance_35 : decode cX6_isBalance 35 = .ok (.iconst (-1), 1) := by decide +kernel
theorem dX6_isBalance_36 : decode cX6_isBalance 36 = .ok (.if_icmp .ge 7, 3) := by decide +kernel
theorem dX6_isBalance_39 : decode cX6_isBalance 39 = .ok (.iconst 1, 1) := by decide +kernel
theorem dX6_isBalance_40 : decode cX6_isBalance 40 = .ok (.goto 4, 3) := by decide +kernel
theorem dX6_isBalance_43 : decode cX6_isBalance 43 = .ok (.iconst 0, 1) := by decide +kernel
theorem dX6_isBalance_44 : decode cX6_isBalance 44 = .ok (.ireturn, 1) := by decide +kernel
theorem dX6_met_0 : decode cX6_met 0 = .ok (.aload_n 0, 1) := by decide +kernel
theorem dX6_met_1 : decode cX6_met 1 = .ok (.iload_n 1, 1) := by decide +kernel
theorem dX6_met_2 : decode cX6_met 2 = .ok (.iload_n 2, 1) := by decide +kernel
theorem dX6_met_3 : decode cX6_met 3 = .ok (.invokevirtual 129, 3) := by decide +kernel
theorem dX6_met_6 : decode cX6_met 6 = .ok (.ifCond .eq 15, 3) := by decide +kernel
theorem dX6_met_9 : decode cX6_met 9 = .ok (.aload_n 0, 1) := by decide +kernel
theorem dX6_met_10 : decode cX6_met 10 = .ok (.getfield 24, 3) := by decide +kernel
theorem dX6_met_13 : decode cX6_met 13 = .ok (.iload_n 1, 1) := by decide +kernel
theorem dX6_met_14 : decode cX6_met 14 = .ok (.iload_n 2, 1) := by decide +kernel
theorem dX6_met_15 : decode cX6_met 15 = .ok (.invokevirtual 139, 3) := by decide +kernel
theorem dX6_met_18 : decode cX6_met 18 = .ok (.goto 4, 3) := by decide +kernel
theorem dX6_met_21 : decode cX6_met 21 = .ok (.iconst (-1), 1) := by decide +kernel
theorem dX6_met_22 : decode cX6_met 22 = .ok (.ireturn, 1) := by decide +kernel
theorem dX6_cost_0 : decode cX6_cost 0 = .ok (.aload_n 0, 1) := by decide +kernel
theorem dX6_cost_1 : decode cX6_cost 1 = .ok (.iload_n 1, 1) := by decide +kernel
theorem dX6_cost_2 : decode cX6_cost 2 = .ok (.iload_n 2, 1) := by decide +kernel
theorem dX6_cost_3 : decode cX6_cost 3 = .ok (.invokevirtual 129, 3) := by decide +kernel
theorem dX6_cost_6 : decode cX6_cost 6 = .ok (.ifCond .eq 15, 3) := by decide +kernel
theorem dX6_cost_9 : decode cX6_cost 9 = .ok (.aload_n 0, 1) := by decide +kernel
theorem dX6_cost_10 : decode cX6_cost 10 = .ok (.getfield 24, 3) := by decide +kernel
theorem dX6_cost_13 : decode cX6_cost 13 = .ok (.iload_n 1, 1) := by decide +kernel
theorem dX6_cost_14 : decode cX6_cost 14 = .ok (.iload_n 2, 1) := by decide +kernel
theorem dX6_cost_15 : decode cX6_cost 15 = .ok (.invokevirtual 142, 3) := by decide +kernel
theorem dX6_cost_18 : decode cX6_cost 18 = .ok (.goto 4, 3) := by decide +kernel
theorem dX6_cost_21 : decode cX6_cost 21 = .ok (.iconst (-1), 1) := by decide +kernel
theorem dX6_cost_22 : decode cX6_cost 22 = .ok (.ireturn, 1) := by decide +kernel
theorem dX6_direct_0 : decode cX6_direct 0 = .ok (.aload_n 0, 1) := by decide +kernel
theorem dX6_direct_1 : decode cX6_direct 1 = .ok (.iload_n 1, 1) := by decide +kernel
theorem dX6_direct_2 : decode cX6_direct 2 = .ok (.iload_n 2, 1) := by decide +kernel
theorem dX6_direct_3 : decode cX6_direct 3 = .ok (.invokevirtual 129, 3) := by decide +kernel
theorem dX6_direct_6 : decode cX6_direct 6 = .ok (.ifCond .eq 15, 3) := by decide +kernel
theorem dX6_direct_9 : decode cX6_direct 9 = .ok (.aload_n 0, 1) := by decide +kernel
theorem dX6_direct_10 : decode cX6_direct 10 = .ok (.getfield 24, 3) := by decide +kernel
theorem dX6_direct_13 : decode cX6_direct 13 = .ok (.iload_n 1, 1) := by decide +kernel
theorem dX6_direct_14 : decode cX6_direct 14 = .ok (.iload_n 2, 1) := by decide +kernel
theorem dX6_direct_15 : decode cX6_direct 15 = .ok (.invokevirtual 145, 3) := by decide +kernel
theorem dX6_direct_18 : decode cX6_direct 18 = .ok (.goto 4, 3) := by decide +kernel
theorem dX6_direct_21 : decode cX6_direct 21 = .ok (.iconst (-1), 1) := by decide +kernel
theorem dX6_direct_22 : decode cX6_direct 22 = .ok (.ireturn, 1) := by decide +kernel
theorem dX6_pair_0 : decode cX6_pair 0 = .ok (.aload_n 0, 1) := by decide +kernel
theorem dX6_pair_1 : decode cX6_pair 1 = .ok (.getfield 10, 3) := by decide +kernel
theorem dX6_pair_4 : decode cX6_pair 4 = .ok (.getfield 60, 3) := by decide +kernel
theorem dX6_pair_7 : decode cX6_pair 7 = .ok (.ifCond .eq 6, 3) := by decide +kernel
theorem dX6_pair_10 : decode cX6_pair 10 = .ok (.bipush (-3), 2) := by decide +kernel
theorem dX6_pair_12 : decode cX6_pair 12 = .ok (.ireturn, 1) := by decide +kernel
theorem dX6_pair_13 : decode cX6_pair 13 = .ok (.aload_n 0, 1) := by decide +kernel
theorem dX6_pair_14 : decode cX6_pair 14 = .ok (.getfield 10, 3) := by decide +kernel
theorem dX6_pair_17 : decode cX6_pair 17 = .ok (.invokevirtual 95, 3) := by decide +kernel
theorem dX6_pair_20 : decode cX6_pair 20 = .ok (.iconst 2, 1) := by decide +kernel
theorem dX6_pair_21 : decode cX6_pair 21 = .ok (.if_icmp .ge 6, 3) := by decide +kernel
theorem dX6_pair_24 : decode cX6_pair 24 = .ok (.bipush (-2), 2) := by decide +kernel
theorem dX6_pair_26 : decode cX6_pair 26 = .ok (.ireturn, 1) := by decide +kernel
theorem dX6_pair_27 : decode cX6_pair 27 = .ok (.aload_n 0, 1) := by decide +kernel
theorem dX6_pair_28 : decode cX6_pair 28 = .ok (.getfield 10, 3) := by decide +kernel
theorem dX6_pair_31 : decode cX6_pair 31 = .ok (.getfield 148, 3) := by decide +kernel
theorem dX6_pair_34 : decode cX6_pair 34 = .ok (.bipush 20, 2) := by decide +kernel
theorem dX6_pair_36 : decode cX6_pair 36 = .ok (.if_icmp .lt 6, 3) := by decide +kernel
theorem dX6_pair_39 : decode cX6_pair 39 = .ok (.bipush (-4), 2) := by decide +kernel
theorem dX6_pair_41 : decode cX6_pair 41 = .ok (.ireturn, 1) := by decide +kernel
theorem dX6_pair_42 : decode cX6_pair 42 = .ok (.aload_n 0, 1) := by decide +kernel
theorem dX6_pair_43 : decode cX6_pair 43 = .ok (.getfield 33, 3) := by decide +kernel
theorem dX6_pair_46 : decode cX6_pair 46 = .ok (.invokevirtual 151, 3) := by decide +kernel
theorem dX6_pair_49 : decode cX6_pair 49 = .ok (.aload_n 0, 1) := by decide +kernel
theorem dX6_pair_50 : decode cX6_pair 50 = .ok (.getfield 33, 3) := by decide +kernel
theorem dX6_pair_53 : decode cX6_pair 53 = .ok (.invokevirtual 154, 3) := by decide +kernel
theorem dX6_pair_56 : decode cX6_pair 56 = .ok (.bipush (-9), 2) := by decide +kernel
theorem dX6_pair_58 : decode cX6_pair 58 = .ok (.if_icmp .ne 6, 3) := by decide +kernel
theorem dX6_pair_61 : decode cX6_pair 61 = .ok (.bipush (-9), 2) := by decide +kernel
theorem dX6_pair_63 : decode cX6_pair 63 = .ok (.ireturn, 1) := by decide +kernel
theorem dX6_pair_64 : decode cX6_pair 64 = .ok (.aload_n 0, 1) := by decide +kernel
theorem dX6_pair_65 : decode cX6_pair 65 = .ok (.getfield 33, 3) := by decide +kernel
theorem dX6_pair_68 : decode cX6_pair 68 = .ok (.invokevirtual 157, 3) := by decide +kernel
theorem dX6_pair_71 : decode cX6_pair 71 = .ok (.aload_n 0, 1) := by decide +kernel
theorem dX6_pair_72 : decode cX6_pair 72 = .ok (.getfield 10, 3) := by decide +kernel
theorem dX6_pair_75 : decode cX6_pair 75 = .ok (.getfield 160, 3) := by decide +kernel
theorem dX6_pair_78 : decode cX6_pair 78 = .ok (.aload_n 0, 1) := by decide +kernel
theorem dX6_pair_79 : decode cX6_pair 79 = .ok (.getfield 10, 3) := by decide +kernel
theorem dX6_pair_82 : decode cX6_pair 82 = .ok (.getfield 148, 3) := by decide +kernel
theorem dX6_pair_85 : decode cX6_pair 85 = .ok (.iconst 1, 1) := by decide +kernel
theorem dX6_pair_86 : decode cX6_pair 86 = .ok (.isub, 1) := by decide +kernel
theorem dX6_pair_87 : decode cX6_pair 87 = .ok (.invokevirtual 86, 3) := by decide +kernel
theorem dX6_pair_90 : decode cX6_pair 90 = .ok (.ireturn, 1) := by decide +kernel
theorem dX6_least_0 : decode cX6_least 0 = .ok (.aload_n 0, 1) := by decide +kernel
theorem dX6_least_1 : decode cX6_least 1 = .ok (.getfield 10, 3) := by decide +kernel
theorem dX6_least_4 : decode cX6_least 4 = .ok (.getfield 60, 3) := by decide +kernel
theorem dX6_least_7 : decode cX6_least 7 = .ok (.ifCond .eq 6, 3) := by decide +kernel
theorem dX6_least_10 : decode cX6_least 10 = .ok (.bipush (-3), 2) := by decide +kernel
theorem dX6_least_12 : decode cX6_least 12 = .ok (.ireturn, 1) := by decide +kernel
theorem dX6_least_13 : decode cX6_least 13 = .ok (.aload_n 0, 1) := by decide +kernel
theorem dX6_least_14 : decode cX6_least 14 = .ok (.getfield 10, 3) := by decide +kernel
theorem dX6_least_17 : decode cX6_least 17 = .ok (.invokevirtual 95, 3) := by decide +kernel
theorem dX6_least_20 : decode cX6_least 20 = .ok (.iconst 2, 1) := by decide +kernel
theorem dX6_least_21 : decode cX6_least 21 = .ok (.if_icmp .ge 6, 3) := by decide +kernel
theorem dX6_least_24 : decode cX6_least 24 = .ok (.bipush (-2), 2) := by decide +kernel
theorem dX6_least_26 : decode cX6_least 26 = .ok (.ireturn, 1) := by decide +kernel
theorem dX6_least_27 : decode cX6_least 27 = .ok (.aload_n 0, 1) := by decide +kernel
theorem dX6_least_28 : decode cX6_least 28 = .ok (.getfield 33, 3) := by decide +kernel
theorem dX6_least_31 : decode cX6_least 31 = .ok (.invokevirtual 151, 3) := by decide +kernel
theorem dX6_least_34 : decode cX6_least 34 = .ok (.aload_n 0, 1) := by decide +kernel
theorem dX6_least_35 : decode cX6_least 35 = .ok (.getfield 33, 3) := by decide +kernel
theorem dX6_least_38 : decode cX6_least 38 = .ok (.invokevirtual 154, 3) := by decide +kernel
theorem dX6_least_41 : decode cX6_least 41 = .ok (.ireturn, 1) := by decide +kernel
theorem dX6_ways_0 : decode cX6_ways 0 = .ok (.aload_n 0, 1) := by decide +kernel
theorem dX6_ways_1 : decode cX6_ways 1 = .ok (.getfield 10, 3) := by decide +kernel
theorem dX6_ways_4 : decode cX6_ways 4 = .ok (.getfield 60, 3) := by decide +kernel
theorem dX6_ways_7 : decode cX6_ways 7 = .ok (.ifCond .eq 6, 3) := by decide +kernel
theorem dX6_ways_10 : decode cX6_ways 10 = .ok (.bipush (-3), 2) := by decide +kernel
theorem dX6_ways_12 : decode cX6_ways 12 = .ok (.ireturn, 1) := by decide +kernel
theorem dX6_ways_13 : decode cX6_ways 13 = .ok (.aload_n 0, 1) := by decide +kernel
theorem dX6_ways_14 : decode cX6_ways 14 = .ok (.getfield 10, 3) := by decide +kernel
theorem dX6_ways_17 : decode cX6_ways 17 = .ok (.invokevirtual 95, 3) := by decide +kernel
theorem dX6_ways_20 : decode cX6_ways 20 = .ok (.iconst 2, 1) := by decide +kernel
theorem dX6_ways_21 : decode cX6_ways 21 = .ok (.if_icmp .ge 6, 3) := by decide +kernel
theorem dX6_ways_24 : decode cX6_ways 24 = .ok (.bipush (-2), 2) := by decide +kernel
theorem dX6_ways_26 : decode cX6_ways 26 = .ok (.ireturn, 1) := by decide +kernel
theorem dX6_ways_27 : decode cX6_ways 27 = .ok (.aload_n 0, 1) := by decide +kernel
theorem dX6_ways_28 : decode cX6_ways 28 = .ok (.getfield 33, 3) := by decide +kernel
theorem dX6_ways_31 : decode cX6_ways 31 = .ok (.invokevirtual 151, 3) := by decide +kernel
theorem dX6_ways_34 : decode cX6_ways 34 = .ok (.aload_n 0, 1) := by decide +kernel
theorem dX6_ways_35 : decode cX6_ways 35 = .ok (.getfield 33, 3) := by decide +kernel
theorem dX6_ways_38 : decode cX6_ways 38 = .ok (.invokevirtual 163, 3) := by decide +kernel
theorem dX6_ways_41 : decode cX6_ways 41 = .ok (.ireturn, 1) := by decide +kernel
theorem dX6_board_0 : decode cX6_board 0 = .ok (.aload_n 0, 1) := by decide +kernel
theorem dX6_board_1 : decode cX6_board 1 = .ok (.iload_n 1, 1) := by decide +kernel
theorem dX6_board_2 : decode cX6_board 2 = .ok (.invokevirtual 166, 3) := by decide +kernel
theorem dX6_board_5 : decode cX6_board 5 = .ok (.ifCond .eq 22, 3) := by decide +kernel
theorem dX6_board_8 : decode cX6_board 8 = .ok (.iload_n 2, 1) := by decide +kernel
theorem dX6_board_9 : decode cX6_board 9 = .ok (.ifCond .lt 18, 3) := by decide +kernel
theorem dX6_board_12 : decode cX6_board 12 = .ok (.iload_n 2, 1) := by decide +kernel
theorem dX6_board_13 : decode cX6_board 13 = .ok (.aload_n 0, 1) := by decide +kernel
theorem dX6_board_14 : decode cX6_board 14 = .ok (.getfield 10, 3) := by decide +kernel
theorem dX6_board_17 : decode cX6_board 17 = .ok (.getfield 160, 3) := by decide +kernel
theorem dX6_board_20 : decode cX6_board 20 = .ok (.iload_n 1, 1) := by decide +kernel
theorem dX6_board_21 : decode cX6_board 21 = .ok (.invokevirtual 86, 3) := by decide +kernel
theorem dX6_board_24 : decode cX6_board 24 = .ok (.if_icmp .lt 5, 3) := by decide +kernel
theorem dX6_board_27 : decode cX6_board 27 = .ok (.iconst (-1), 1) := by decide +kernel
theorem dX6_board_28 : decode cX6_board 28 = .ok (.ireturn, 1) := by decide +kernel
theorem dX6_board_29 : decode cX6_board 29 = .ok (.iload_n 1, 1) := by decide +kernel
theorem dX6_board_30 : decode cX6_board 30 = .ok (.iload_n 2, 1) := by decide +kernel
theorem dX6_board_31 : decode cX6_board 31 = .ok (.invokestatic 169, 3) := by decide +kernel
theorem dX6_board_34 : decode cX6_board 34 = .ok (.istore 4, 2) := by decide +kernel
theorem dX6_board_36 : decode cX6_board 36 = .ok (.iload_n 3, 1) := by decide +kernel
theorem dX6_board_37 : decode cX6_board 37 = .ok (.tableswitch 66 0 2 #[27, 40, 53], 27) := by decide +kernel
theorem dX6_board_64 : decode cX6_board 64 = .ok (.aload_n 0, 1) := by decide +kernel
theorem dX6_board_65 : decode cX6_board 65 = .ok (.getfield 10, 3) := by decide +kernel
theorem dX6_board_68 : decode cX6_board 68 = .ok (.getfield 172, 3) := by decide +kernel
theorem dX6_board_71 : decode cX6_board 71 = .ok (.iload 4, 2) := by decide +kernel
theorem dX6_board_73 : decode cX6_board 73 = .ok (.invokevirtual 86, 3) := by decide +kernel
theorem dX6_board_76 : decode cX6_board 76 = .ok (.ireturn, 1) := by decide +kernel
theorem dX6_board_77 : decode cX6_board 77 = .ok (.aload_n 0, 1) := by decide +kernel
theorem dX6_board_78 : decode cX6_board 78 = .ok (.getfield 10, 3) := by decide +kernel
theorem dX6_board_81 : decode cX6_board 81 = .ok (.getfield 175, 3) := by decide +kernel
theorem dX6_board_84 : decode cX6_board 84 = .ok (.iload 4, 2) := by decide +kernel
theorem dX6_board_86 : decode cX6_board 86 = .ok (.invokevirtual 86, 3) := by decide +kernel
theorem dX6_board_89 : decode cX6_board 89 = .ok (.ireturn, 1) := by decide +kernel
theorem dX6_board_90 : decode cX6_board 90 = .ok (.aload_n 0, 1) := by decide +kernel
theorem dX6_board_91 : decode cX6_board 91 = .ok (.getfield 10, 3) := by decide +kernel
theorem dX6_board_94 : decode cX6_board 94 = .ok (.getfield 178, 3) := by decide +kernel
theorem dX6_board_97 : decode cX6_board 97 = .ok (.iload 4, 2) := by decide +kernel
theorem dX6_board_99 : decode cX6_board 99 = .ok (.invokevirtual 86, 3) := by decide +kernel
theorem dX6_board_102 : decode cX6_board 102 = .ok (.ireturn, 1) := by decide +kernel
theorem dX6_board_103 : decode cX6_board 103 = .ok (.iconst (-1), 1) := by decide +kernel
theorem dX6_board_104 : decode cX6_board 104 = .ok (.ireturn, 1) := by decide +kernel
theorem dX6_bye_0 : decode cX6_bye 0 = .ok (.aload_n 0, 1) := by decide +kernel
theorem dX6_bye_1 : decode cX6_bye 1 = .ok (.iload_n 1, 1) := by decide +kernel
theorem dX6_bye_2 : decode cX6_bye 2 = .ok (.invokevirtual 166, 3) := by decide +kernel
theorem dX6_bye_5 : decode cX6_bye 5 = .ok (.ifCond .eq 17, 3) := by decide +kernel
theorem dX6_bye_8 : decode cX6_bye 8 = .ok (.aload_n 0, 1) := by decide +kernel
theorem dX6_bye_9 : decode cX6_bye 9 = .ok (.getfield 10, 3) := by decide +kernel
theorem dX6_bye_12 : decode cX6_bye 12 = .ok (.getfield 181, 3) := by decide +kernel
theorem dX6_bye_15 : decode cX6_bye 15 = .ok (.iload_n 1, 1) := by decide +kernel
theorem dX6_bye_16 : decode cX6_bye 16 = .ok (.invokevirtual 86, 3) := by decide +kernel
theorem dX6_bye_19 : decode cX6_bye 19 = .ok (.goto 4, 3) := by decide +kernel
theorem dX6_bye_22 : decode cX6_bye 22 = .ok (.iconst (-1), 1) := by decide +kernel
theorem dX6_bye_23 : decode cX6_bye 23 = .ok (.ireturn, 1) := by decide +kernel
theorem dX6_result_0 : decode cX6_result 0 = .ok (.aload_n 0, 1) := by decide +kernel
theorem dX6_result_1 : decode cX6_result 1 = .ok (.getfield 10, 3) := by decide +kernel
theorem dX6_result_4 : decode cX6_result 4 = .ok (.getfield 60, 3) := by decide +kernel
theorem dX6_result_7 : decode cX6_result 7 = .ok (.ifCond .ne 6, 3) := by decide +kernel
theorem dX6_result_10 : decode cX6_result 10 = .ok (.bipush (-3), 2) := by decide +kernel
theorem dX6_result_12 : decode cX6_result 12 = .ok (.ireturn, 1) := by decide +kernel
theorem dX6_result_13 : decode cX6_result 13 = .ok (.aload_n 0, 1) := by decide +kernel
theorem dX6_result_14 : decode cX6_result 14 = .ok (.getfield 10, 3) := by decide +kernel
theorem dX6_result_17 : decode cX6_result 17 = .ok (.getfield 148, 3) := by decide +kernel
theorem dX6_result_20 : decode cX6_result 20 = .ok (.iconst 1, 1) := by decide +kernel
theorem dX6_result_21 : decode cX6_result 21 = .ok (.isub, 1) := by decide +kernel
theorem dX6_result_22 : decode cX6_result 22 = .ok (.istore_n 3, 1) := by decide +kernel
theorem dX6_result_23 : decode cX6_result 23 = .ok (.iload_n 1, 1) := by decide +kernel
theorem dX6_result_24 : decode cX6_result 24 = .ok (.ifCond .lt 18, 3) := by decide +kernel
theorem dX6_result_27 : decode cX6_result 27 = .ok (.iload_n 1, 1) := by decide +kernel
theorem dX6_result_28 : decode cX6_result 28 = .ok (.aload_n 0, 1) := by decide +kernel
theorem dX6_result_29 : decode cX6_result 29 = .ok (.getfield 10, 3) := by decide +kernel
theorem dX6_result_32 : decode cX6_result 32 = .ok (.getfield 160, 3) := by decide +kernel
theorem dX6_result_35 : decode cX6_result 35 = .ok (.iload_n 3, 1) := by decide +kernel
theorem dX6_result_36 : decode cX6_result 36 = .ok (.invokevirtual 86, 3) := by decide +kernel
theorem dX6_result_39 : decode cX6_result 39 = .ok (.if_icmp .lt 5, 3) := by decide +kernel
theorem dX6_result_42 : decode cX6_result 42 = .ok (.iconst (-1), 1) := by decide +kernel
theorem dX6_result_43 : decode cX6_result 43 = .ok (.ireturn, 1) := by decide +kernel
theorem dX6_result_44 : decode cX6_result 44 = .ok (.iload_n 2, 1) := by decide +kernel
theorem dX6_result_45 : decode cX6_result 45 = .ok (.ifCond .lt 9, 3) := by decide +kernel
theorem dX6_result_48 : decode cX6_result 48 = .ok (.iload_n 2, 1) := by decide +kernel
theorem dX6_result_49 : decode cX6_result 49 = .ok (.bipush 6, 2) := by decide +kernel
theorem dX6_result_51 : decode cX6_result 51 = .ok (.if_icmp .le 6, 3) := by decide +kernel
theorem dX6_result_54 : decode cX6_result 54 = .ok (.bipush (-2), 2) := by decide +kernel
theorem dX6_result_56 : decode cX6_result 56 = .ok (.ireturn, 1) := by decide +kernel
theorem dX6_result_57 : decode cX6_result 57 = .ok (.iload_n 3, 1) := by decide +kernel
theorem dX6_result_58 : decode cX6_result 58 = .ok (.iload_n 1, 1) := by decide +kernel
theorem dX6_result_59 : decode cX6_result 59 = .ok (.invokestatic 169, 3) := by decide +kernel
theorem dX6_result_62 : decode cX6_result 62 = .ok (.istore 4, 2) := by decide +kernel
theorem dX6_result_64 : decode cX6_result 64 = .ok (.aload_n 0, 1) := by decide +kernel
theorem dX6_result_65 : decode cX6_result 65 = .ok (.getfield 10, 3) := by decide +kernel
theorem dX6_result_68 : decode cX6_result 68 = .ok (.getfield 178, 3) := by decide +kernel
theorem dX6_result_71 : decode cX6_result 71 = .ok (.iload 4, 2) := by decide +kernel
theorem dX6_result_73 : decode cX6_result 73 = .ok (.invokevirtual 86, 3) := by decide +kernel
theorem dX6_result_76 : decode cX6_result 76 = .ok (.istore 5, 2) := by decide +kernel
theorem dX6_result_78 : decode cX6_result 78 = .ok (.aload_n 0, 1) := by decide +kernel
theorem dX6_result_79 : decode cX6_result 79 = .ok (.getfield 10, 3) := by decide +kernel
theorem dX6_result_82 : decode cX6_result 82 = .ok (.getfield 178, 3) := by decide +kernel
theorem dX6_result_85 : decode cX6_result 85 = .ok (.iload 4, 2) := by decide +kernel
theorem dX6_result_87 : decode cX6_result 87 = .ok (.iload_n 2, 1) := by decide +kernel
theorem dX6_result_88 : decode cX6_result 88 = .ok (.invokevirtual 91, 3) := by decide +kernel
theorem dX6_result_91 : decode cX6_result 91 = .ok (.iload 5, 2) := by decide +kernel
theorem dX6_result_93 : decode cX6_result 93 = .ok (.ireturn, 1) := by decide +kernel
theorem dX6_close_0 : decode cX6_close 0 = .ok (.aload_n 0, 1) := by decide +kernel
theorem dX6_close_1 : decode cX6_close 1 = .ok (.getfield 10, 3) := by decide +kernel
theorem dX6_close_4 : decode cX6_close 4 = .ok (.getfield 60, 3) := by decide +kernel
theorem dX6_close_7 : decode cX6_close 7 = .ok (.ifCond .ne 6, 3) := by decide +kernel
theorem dX6_close_10 : decode cX6_close 10 = .ok (.bipush (-3), 2) := by decide +kernel
theorem dX6_close_12 : decode cX6_close 12 = .ok (.ireturn, 1) := by decide +kernel
theorem dX6_close_13 : decode cX6_close 13 = .ok (.aload_n 0, 1) := by decide +kernel
theorem dX6_close_14 : decode cX6_close 14 = .ok (.getfield 10, 3) := by decide +kernel
theorem dX6_close_17 : decode cX6_close 17 = .ok (.getfield 148, 3) := by decide +kernel
theorem dX6_close_20 : decode cX6_close 20 = .ok (.iconst 1, 1) := by decide +kernel
theorem dX6_close_21 : decode cX6_close 21 = .ok (.isub, 1) := by decide +kernel
theorem dX6_close_22 : decode cX6_close 22 = .ok (.istore_n 1, 1) := by decide +kernel
theorem dX6_close_23 : decode cX6_close 23 = .ok (.aload_n 0, 1) := by decide +kernel
theorem dX6_close_24 : decode cX6_close 24 = .ok (.getfield 10, 3) := by decide +kernel
theorem dX6_close_27 : decode cX6_close 27 = .ok (.iload_n 1, 1) := by decide +kernel
theorem dX6_close_28 : decode cX6_close 28 = .ok (.invokevirtual 182, 3) := by decide +kernel
theorem dX6_close_31 : decode cX6_close 31 = .ok (.aload_n 0, 1) := by decide +kernel
theorem dX6_close_32 : decode cX6_close 32 = .ok (.getfield 10, 3) := by decide +kernel
theorem dX6_close_35 : decode cX6_close 35 = .ok (.getfield 160, 3) := by decide +kernel
theorem dX6_close_38 : decode cX6_close 38 = .ok (.iload_n 1, 1) := by decide +kernel
theorem dX6_close_39 : decode cX6_close 39 = .ok (.invokevirtual 86, 3) := by decide +kernel
theorem dX6_close_42 : decode cX6_close 42 = .ok (.if_icmp .ge 6, 3) := by decide +kernel
theorem dX6_close_45 : decode cX6_close 45 = .ok (.bipush (-3), 2) := by decide +kernel
theorem dX6_close_47 : decode cX6_close 47 = .ok (.ireturn, 1) := by decide +kernel
theorem dX6_close_48 : decode cX6_close 48 = .ok (.aload_n 0, 1) := by decide +kernel
theorem dX6_close_49 : decode cX6_close 49 = .ok (.getfield 10, 3) := by decide +kernel
theorem dX6_close_52 : decode cX6_close 52 = .ok (.iconst 0, 1) := by decide +kernel
theorem dX6_close_53 : decode cX6_close 53 = .ok (.putfield 60, 3) := by decide +kernel
theorem dX6_close_56 : decode cX6_close 56 = .ok (.aload_n 0, 1) := by decide +kernel
theorem dX6_close_57 : decode cX6_close 57 = .ok (.getfield 24, 3) := by decide +kernel
theorem dX6_close_60 : decode cX6_close 60 = .ok (.invokevirtual 72, 3) := by decide +kernel
theorem dX6_close_63 : decode cX6_close 63 = .ok (.aload_n 0, 1) := by decide +kernel
theorem dX6_close_64 : decode cX6_close 64 = .ok (.getfield 10, 3) := by decide +kernel
theorem dX6_close_67 : decode cX6_close 67 = .ok (.getfield 148, 3) := by decide +kernel
theorem dX6_close_70 : decode cX6_close 70 = .ok (.ireturn, 1) := by decide +kernel
theorem dX6_drop_0 : decode cX6_drop 0 = .ok (.aload_n 0, 1) := by decide +kernel
theorem dX6_drop_1 : decode cX6_drop 1 = .ok (.getfield 10, 3) := by decide +kernel
theorem dX6_drop_4 : decode cX6_drop 4 = .ok (.getfield 148, 3) := by decide +kernel
theorem dX6_drop_7 : decode cX6_drop 7 = .ok (.ifCond .ne 6, 3) := by decide +kernel
theorem dX6_drop_10 : decode cX6_drop 10 = .ok (.bipush (-3), 2) := by decide +kernel
theorem dX6_drop_12 : decode cX6_drop 12 = .ok (.ireturn, 1) := by decide +kernel
theorem dX6_drop_13 : decode cX6_drop 13 = .ok (.aload_n 0, 1) := by decide +kernel
theorem dX6_drop_14 : decode cX6_drop 14 = .ok (.getfield 10, 3) := by decide +kernel
theorem dX6_drop_17 : decode cX6_drop 17 = .ok (.dup, 1) := by decide +kernel
theorem dX6_drop_18 : decode cX6_drop 18 = .ok (.getfield 148, 3) := by decide +kernel
theorem dX6_drop_21 : decode cX6_drop 21 = .ok (.iconst 1, 1) := by decide +kernel
theorem dX6_drop_22 : decode cX6_drop 22 = .ok (.isub, 1) := by decide +kernel
theorem dX6_drop_23 : decode cX6_drop 23 = .ok (.putfield 148, 3) := by decide +kernel
theorem dX6_drop_26 : decode cX6_drop 26 = .ok (.aload_n 0, 1) := by decide +kernel
theorem dX6_drop_27 : decode cX6_drop 27 = .ok (.getfield 10, 3) := by decide +kernel
theorem dX6_drop_30 : decode cX6_drop 30 = .ok (.iconst 0, 1) := by decide +kernel
theorem dX6_drop_31 : decode cX6_drop 31 = .ok (.putfield 60, 3) := by decide +kernel
theorem dX6_drop_34 : decode cX6_drop 34 = .ok (.aload_n 0, 1) := by decide +kernel
theorem dX6_drop_35 : decode cX6_drop 35 = .ok (.getfield 24, 3) := by decide +kernel
theorem dX6_drop_38 : decode cX6_drop 38 = .ok (.invokevirtual 72, 3) := by decide +kernel
theorem dX6_drop_41 : decode cX6_drop 41 = .ok (.aload_n 0, 1) := by decide +kernel
theorem dX6_drop_42 : decode cX6_drop 42 = .ok (.getfield 10, 3) := by decide +kernel
theorem dX6_drop_45 : decode cX6_drop 45 = .ok (.getfield 148, 3) := by decide +kernel
theorem dX6_drop_48 : decode cX6_drop 48 = .ok (.ireturn, 1) := by decide +kernel
theorem dX6_game_0 : decode cX6_game 0 = .ok (.aload_n 0, 1) := by decide +kernel
theorem dX6_game_1 : decode cX6_game 1 = .ok (.iload_n 1, 1) := by decide +kernel
theorem dX6_game_2 : decode cX6_game 2 = .ok (.invokevirtual 79, 3) := by decide +kernel
theorem dX6_game_5 : decode cX6_game 5 = .ok (.ifCond .eq 11, 3) := by decide +kernel
theorem dX6_game_8 : decode cX6_game 8 = .ok (.aload_n 0, 1) := by decide +kernel
theorem dX6_game_9 : decode cX6_game 9 = .ok (.iload_n 2, 1) := by decide +kernel
theorem dX6_game_10 : decode cX6_game 10 = .ok (.invokevirtual 166, 3) := by decide +kernel
theorem dX6_game_13 : decode cX6_game 13 = .ok (.ifCond .ne 5, 3) := by decide +kernel
theorem dX6_game_16 : decode cX6_game 16 = .ok (.iconst (-1), 1) := by decide +kernel
theorem dX6_game_17 : decode cX6_game 17 = .ok (.ireturn, 1) := by decide +kernel
theorem dX6_game_18 : decode cX6_game 18 = .ok (.aload_n 0, 1) := by decide +kernel
theorem dX6_game_19 : decode cX6_game 19 = .ok (.getfield 10, 3) := by decide +kernel
theorem dX6_game_22 : decode cX6_game 22 = .ok (.iload_n 2, 1) := by decide +kernel
theorem dX6_game_23 : decode cX6_game 23 = .ok (.iload_n 1, 1) := by decide +kernel
theorem dX6_game_24 : decode cX6_game 24 = .ok (.invokevirtual 185, 3) := by decide +kernel
theorem dX6_game_27 : decode cX6_game 27 = .ok (.istore 4, 2) := by decide +kernel
theorem dX6_game_29 : decode cX6_game 29 = .ok (.iload_n 3, 1) := by decide +kernel
theorem dX6_game_30 : decode cX6_game 30 = .ok (.tableswitch 95 0 2 #[26, 48, 70], 26) := by decide +kernel
theorem dX6_game_56 : decode cX6_game 56 = .ok (.iload 4, 2) := by decide +kernel
theorem dX6_game_58 : decode cX6_game 58 = .ok (.ifCond .ge 8, 3) := by decide +kernel
theorem dX6_game_61 : decode cX6_game 61 = .ok (.bipush (-5), 2) := by decide +kernel
theorem dX6_game_63 : decode cX6_game 63 = .ok (.goto 14, 3) := by decide +kernel
theorem dX6_game_66 : decode cX6_game 66 = .ok (.aload_n 0, 1) := by decide +kernel
theorem dX6_game_67 : decode cX6_game 67 = .ok (.getfield 10, 3) := by decide +kernel
theorem dX6_game_70 : decode cX6_game 70 = .ok (.iload_n 2, 1) := by decide +kernel
theorem dX6_game_71 : decode cX6_game 71 = .ok (.iload 4, 2) := by decide +kernel
theorem dX6_game_73 : decode cX6_game 73 = .ok (.iload_n 1, 1) := by decide +kernel
theorem dX6_game_74 : decode cX6_game 74 = .ok (.invokevirtual 188, 3) := by decide +kernel
theorem dX6_game_77 : decode cX6_game 77 = .ok (.ireturn, 1) := by decide +kernel
theorem dX6_game_78 : decode cX6_game 78 = .ok (.iload 4, 2) := by decide +kernel
theorem dX6_game_80 : decode cX6_game 80 = .ok (.ifCond .ge 8, 3) := by decide +kernel
theorem dX6_game_83 : decode cX6_game 83 = .ok (.bipush (-5), 2) := by decide +kernel
theorem dX6_game_85 : decode cX6_game 85 = .ok (.goto 14, 3) := by decide +kernel
theorem dX6_game_88 : decode cX6_game 88 = .ok (.aload_n 0, 1) := by decide +kernel
theorem dX6_game_89 : decode cX6_game 89 = .ok (.getfield 10, 3) := by decide +kernel
theorem dX6_game_92 : decode cX6_game 92 = .ok (.iload_n 2, 1) := by decide +kernel
theorem dX6_game_93 : decode cX6_game 93 = .ok (.iload 4, 2) := by decide +kernel
theorem dX6_game_95 : decode cX6_game 95 = .ok (.iload_n 1, 1) := by decide +kernel
theorem dX6_game_96 : decode cX6_game 96 = .ok (.invokevirtual 192, 3) := by decide +kernel
theorem dX6_game_99 : decode cX6_game 99 = .ok (.ireturn, 1) := by decide +kernel
theorem dX6_game_100 : decode cX6_game 100 = .ok (.iload_n 2, 1) := by decide +kernel
theorem dX6_game_101 : decode cX6_game 101 = .ok (.aload_n 0, 1) := by decide +kernel
theorem dX6_game_102 : decode cX6_game 102 = .ok (.getfield 10, 3) := by decide +kernel
theorem dX6_game_105 : decode cX6_game 105 = .ok (.invokevirtual 195, 3) := by decide +kernel
theorem dX6_game_108 : decode cX6_game 108 = .ok (.if_icmp .ge 14, 3) := by decide +kernel
theorem dX6_game_111 : decode cX6_game 111 = .ok (.aload_n 0, 1) := by decide +kernel
theorem dX6_game_112 : decode cX6_game 112 = .ok (.iload_n 1, 1) := by decide +kernel
theorem dX6_game_113 : decode cX6_game 113 = .ok (.iload_n 2, 1) := by decide +kernel
theorem dX6_game_114 : decode cX6_game 114 = .ok (.iload 4, 2) := by decide +kernel
theorem dX6_game_116 : decode cX6_game 116 = .ok (.invokevirtual 198, 3) := by decide +kernel
theorem dX6_game_119 : decode cX6_game 119 = .ok (.goto 5, 3) := by decide +kernel
theorem dX6_game_122 : decode cX6_game 122 = .ok (.bipush (-5), 2) := by decide +kernel
theorem dX6_game_124 : decode cX6_game 124 = .ok (.ireturn, 1) := by decide +kernel
theorem dX6_game_125 : decode cX6_game 125 = .ok (.iconst (-1), 1) := by decide +kernel
theorem dX6_game_126 : decode cX6_game 126 = .ok (.ireturn, 1) := by decide +kernel
theorem dX6_pointsMade_0 : decode cX6_pointsMade 0 = .ok (.iload_n 3, 1) := by decide +kernel
theorem dX6_pointsMade_1 : decode cX6_pointsMade 1 = .ok (.ifCond .ge 24, 3) := by decide +kernel
theorem dX6_pointsMade_4 : decode cX6_pointsMade 4 = .ok (.aload_n 0, 1) := by decide +kernel
theorem dX6_pointsMade_5 : decode cX6_pointsMade 5 = .ok (.getfield 10, 3) := by decide +kernel
theorem dX6_pointsMade_8 : decode cX6_pointsMade 8 = .ok (.getfield 181, 3) := by decide +kernel
theorem dX6_pointsMade_11 : decode cX6_pointsMade 11 = .ok (.iload_n 2, 1) := by decide +kernel
theorem dX6_pointsMade_12 : decode cX6_pointsMade 12 = .ok (.invokevirtual 86, 3) := by decide +kernel
theorem dX6_pointsMade_15 : decode cX6_pointsMade 15 = .ok (.iload_n 1, 1) := by decide +kernel
theorem dX6_pointsMade_16 : decode cX6_pointsMade 16 = .ok (.if_icmp .ne 7, 3) := by decide +kernel
theorem dX6_pointsMade_19 : decode cX6_pointsMade 19 = .ok (.iconst 2, 1) := by decide +kernel
theorem dX6_pointsMade_20 : decode cX6_pointsMade 20 = .ok (.goto 4, 3) := by decide +kernel
theorem dX6_pointsMade_23 : decode cX6_pointsMade 23 = .ok (.iconst 0, 1) := by decide +kernel
theorem dX6_pointsMade_24 : decode cX6_pointsMade 24 = .ok (.ireturn, 1) := by decide +kernel
theorem dX6_pointsMade_25 : decode cX6_pointsMade 25 = .ok (.aload_n 0, 1) := by decide +kernel
theorem dX6_pointsMade_26 : decode cX6_pointsMade 26 = .ok (.getfield 10, 3) := by decide +kernel
theorem dX6_pointsMade_29 : decode cX6_pointsMade 29 = .ok (.iload_n 2, 1) := by decide +kernel
theorem dX6_pointsMade_30 : decode cX6_pointsMade 30 = .ok (.iload_n 3, 1) := by decide +kernel
theorem dX6_pointsMade_31 : decode cX6_pointsMade 31 = .ok (.iload_n 1, 1) := by decide +kernel
theorem dX6_pointsMade_32 : decode cX6_pointsMade 32 = .ok (.invokevirtual 201, 3) := by decide +kernel
theorem dX6_pointsMade_35 : decode cX6_pointsMade 35 = .ok (.invokestatic 204, 3) := by decide +kernel
theorem dX6_pointsMade_38 : decode cX6_pointsMade 38 = .ok (.ireturn, 1) := by decide +kernel
theorem dX6_average_0 : decode cX6_average 0 = .ok (.aload_n 0, 1) := by decide +kernel
theorem dX6_average_1 : decode cX6_average 1 = .ok (.iload_n 1, 1) := by decide +kernel
theorem dX6_average_2 : decode cX6_average 2 = .ok (.invokevirtual 79, 3) := by decide +kernel
theorem dX6_average_5 : decode cX6_average 5 = .ok (.ifCond .eq 12, 3) := by decide +kernel
theorem dX6_average_8 : decode cX6_average 8 = .ok (.iload_n 2, 1) := by decide +kernel
theorem dX6_average_9 : decode cX6_average 9 = .ok (.ifCond .lt 8, 3) := by decide +kernel
theorem dX6_average_12 : decode cX6_average 12 = .ok (.iload_n 2, 1) := by decide +kernel
theorem dX6_average_13 : decode cX6_average 13 = .ok (.iconst 1, 1) := by decide +kernel
theorem dX6_average_14 : decode cX6_average 14 = .ok (.if_icmp .le 5, 3) := by decide +kernel
theorem dX6_average_17 : decode cX6_average 17 = .ok (.iconst (-1), 1) := by decide +kernel
theorem dX6_average_18 : decode cX6_average 18 = .ok (.ireturn, 1) := by decide +kernel
theorem dX6_average_19 : decode cX6_average 19 = .ok (.aload_n 0, 1) := by decide +kernel
theorem dX6_average_20 : decode cX6_average 20 = .ok (.getfield 24, 3) := by decide +kernel
theorem dX6_average_23 : decode cX6_average 23 = .ok (.getfield 105, 3) := by decide +kernel
theorem dX6_average_26 : decode cX6_average 26 = .ok (.iload_n 1, 1) := by decide +kernel
theorem dX6_average_27 : decode cX6_average 27 = .ok (.invokevirtual 86, 3) := by decide +kernel
theorem dX6_average_30 : decode cX6_average 30 = .ok (.istore_n 3, 1) := by decide +kernel
theorem dX6_average_31 : decode cX6_average 31 = .ok (.iload_n 3, 1) := by decide +kernel
theorem dX6_average_32 : decode cX6_average 32 = .ok (.ifCond .ne 5, 3) := by decide +kernel
theorem dX6_average_35 : decode cX6_average 35 = .ok (.iload_n 2, 1) := by decide +kernel
theorem dX6_average_36 : decode cX6_average 36 = .ok (.ireturn, 1) := by decide +kernel
theorem dX6_average_37 : decode cX6_average 37 = .ok (.aload_n 0, 1) := by decide +kernel
theorem dX6_average_38 : decode cX6_average 38 = .ok (.getfield 24, 3) := by decide +kernel
theorem dX6_average_41 : decode cX6_average 41 = .ok (.iload_n 1, 1) := by decide +kernel
theorem dX6_average_42 : decode cX6_average 42 = .ok (.invokevirtual 207, 3) := by decide +kernel
theorem dX6_average_45 : decode cX6_average 45 = .ok (.istore 4, 2) := by decide +kernel
theorem dX6_average_47 : decode cX6_average 47 = .ok (.iload 4, 2) := by decide +kernel
theorem dX6_average_49 : decode cX6_average 49 = .ok (.iload_n 3, 1) := by decide +kernel
theorem dX6_average_50 : decode cX6_average 50 = .ok (.invokestatic 210, 3) := by decide +kernel
theorem dX6_average_53 : decode cX6_average 53 = .ok (.istore 5, 2) := by decide +kernel
theorem dX6_average_55 : decode cX6_average 55 = .ok (.iload_n 2, 1) := by decide +kernel
theorem dX6_average_56 : decode cX6_average 56 = .ok (.ifCond .ne 11, 3) := by decide +kernel
theorem dX6_average_59 : decode cX6_average 59 = .ok (.iload 4, 2) := by decide +kernel
theorem dX6_average_61 : decode cX6_average 61 = .ok (.iload 5, 2) := by decide +kernel
theorem dX6_average_63 : decode cX6_average 63 = .ok (.idiv, 1) := by decide +kernel
theorem dX6_average_64 : decode cX6_average 64 = .ok (.goto 7, 3) := by decide +kernel
theorem dX6_average_67 : decode cX6_average 67 = .ok (.iload_n 3, 1) := by decide +kernel
theorem dX6_average_68 : decode cX6_average 68 = .ok (.iload 5, 2) := by decide +kernel
theorem dX6_average_70 : decode cX6_average 70 = .ok (.idiv, 1) := by decide +kernel
theorem dX6_average_71 : decode cX6_average 71 = .ok (.ireturn, 1) := by decide +kernel
theorem dX6_commonDivisor_0 : decode cX6_commonDivisor 0 = .ok (.iload_n 1, 1) := by decide +kernel
theorem dX6_commonDivisor_1 : decode cX6_commonDivisor 1 = .ok (.istore_n 2, 1) := by decide +kernel
theorem dX6_commonDivisor_2 : decode cX6_commonDivisor 2 = .ok (.iload_n 2, 1) := by decide +kernel
theorem dX6_commonDivisor_3 : decode cX6_commonDivisor 3 = .ok (.iconst 1, 1) := by decide +kernel
theorem dX6_commonDivisor_4 : decode cX6_commonDivisor 4 = .ok (.if_icmp .le 23, 3) := by decide +kernel
theorem dX6_commonDivisor_7 : decode cX6_commonDivisor 7 = .ok (.iload_n 1, 1) := by decide +kernel
theorem dX6_commonDivisor_8 : decode cX6_commonDivisor 8 = .ok (.iload_n 2, 1) := by decide +kernel
theorem dX6_commonDivisor_9 : decode cX6_commonDivisor 9 = .ok (.irem, 1) := by decide +kernel
theorem dX6_commonDivisor_10 : decode cX6_commonDivisor 10 = .ok (.ifCond .ne 11, 3) := by decide +kernel
theorem dX6_commonDivisor_13 : decode cX6_commonDivisor 13 = .ok (.iload_n 0, 1) := by decide +kernel
theorem dX6_commonDivisor_14 : decode cX6_commonDivisor 14 = .ok (.iload_n 2, 1) := by decide +kernel
theorem dX6_commonDivisor_15 : decode cX6_commonDivisor 15 = .ok (.irem, 1) := by decide +kernel
theorem dX6_commonDivisor_16 : decode cX6_commonDivisor 16 = .ok (.ifCond .ne 5, 3) := by decide +kernel
theorem dX6_commonDivisor_19 : decode cX6_commonDivisor 19 = .ok (.iload_n 2, 1) := by decide +kernel
theorem dX6_commonDivisor_20 : decode cX6_commonDivisor 20 = .ok (.ireturn, 1) := by decide +kernel
theorem dX6_commonDivisor_21 : decode cX6_commonDivisor 21 = .ok (.iinc 2 (-1), 3) := by decide +kernel
theorem dX6_commonDivisor_24 : decode cX6_commonDivisor 24 = .ok (.goto (-22), 3) := by decide +kernel
theorem dX6_commonDivisor_27 : decode cX6_commonDivisor 27 = .ok (.iconst 1, 1) := by decide +kernel
theorem dX6_commonDivisor_28 : decode cX6_commonDivisor 28 = .ok (.ireturn, 1) := by decide +kernel
theorem dX6_feed_0 : decode cX6_feed 0 = .ok (.iload_n 1, 1) := by decide +kernel
theorem dX6_feed_1 : decode cX6_feed 1 = .ok (.iconst 1, 1) := by decide +kernel
theorem dX6_feed_2 : decode cX6_feed 2 = .ok (.if_icmp .lt 9, 3) := by decide +kernel
theorem dX6_feed_5 : decode cX6_feed 5 = .ok (.iload_n 1, 1) := by decide +kernel
theorem dX6_feed_6 : decode cX6_feed 6 = .ok (.bipush 127, 2) := by decide +kernel
theorem dX6_feed_8 : decode cX6_feed 8 = .ok (.if_icmp .le 6, 3) := by decide +kernel
theorem dX6_feed_11 : decode cX6_feed 11 = .ok (.bipush (-2), 2) := by decide +kernel
theorem dX6_feed_13 : decode cX6_feed 13 = .ok (.ireturn, 1) := by decide +kernel
theorem dX6_feed_14 : decode cX6_feed 14 = .ok (.aload_n 0, 1) := by decide +kernel
theorem dX6_feed_15 : decode cX6_feed 15 = .ok (.getfield 42, 3) := by decide +kernel
theorem dX6_feed_18 : decode cX6_feed 18 = .ok (.getfield 213, 3) := by decide +kernel
theorem dX6_feed_21 : decode cX6_feed 21 = .ok (.bipush 40, 2) := by decide +kernel
theorem dX6_feed_23 : decode cX6_feed 23 = .ok (.if_icmp .lt 6, 3) := by decide +kernel
theorem dX6_feed_26 : decode cX6_feed 26 = .ok (.bipush (-4), 2) := by decide +kernel
theorem dX6_feed_28 : decode cX6_feed 28 = .ok (.ireturn, 1) := by decide +kernel
theorem dX6_feed_29 : decode cX6_feed 29 = .ok (.aload_n 0, 1) := by decide +kernel
theorem dX6_feed_30 : decode cX6_feed 30 = .ok (.getfield 42, 3) := by decide +kernel
theorem dX6_feed_33 : decode cX6_feed 33 = .ok (.iload_n 1, 1) := by decide +kernel
theorem dX6_feed_34 : decode cX6_feed 34 = .ok (.invokevirtual 216, 3) := by decide +kernel
theorem dX6_feed_37 : decode cX6_feed 37 = .ok (.aload_n 0, 1) := by decide +kernel
theorem dX6_feed_38 : decode cX6_feed 38 = .ok (.getfield 42, 3) := by decide +kernel
theorem dX6_feed_41 : decode cX6_feed 41 = .ok (.getfield 213, 3) := by decide +kernel
theorem dX6_feed_44 : decode cX6_feed 44 = .ok (.ireturn, 1) := by decide +kernel
theorem dX6_clear_0 : decode cX6_clear 0 = .ok (.aload_n 0, 1) := by decide +kernel
theorem dX6_clear_1 : decode cX6_clear 1 = .ok (.getfield 42, 3) := by decide +kernel
theorem dX6_clear_4 : decode cX6_clear 4 = .ok (.getfield 213, 3) := by decide +kernel
theorem dX6_clear_7 : decode cX6_clear 7 = .ok (.istore_n 1, 1) := by decide +kernel
theorem dX6_clear_8 : decode cX6_clear 8 = .ok (.aload_n 0, 1) := by decide +kernel
theorem dX6_clear_9 : decode cX6_clear 9 = .ok (.getfield 42, 3) := by decide +kernel
theorem dX6_clear_12 : decode cX6_clear 12 = .ok (.iconst 0, 1) := by decide +kernel
theorem dX6_clear_13 : decode cX6_clear 13 = .ok (.putfield 213, 3) := by decide +kernel
theorem dX6_clear_16 : decode cX6_clear 16 = .ok (.iload_n 1, 1) := by decide +kernel
theorem dX6_clear_17 : decode cX6_clear 17 = .ok (.ireturn, 1) := by decide +kernel
theorem dX6_results_0 : decode cX6_results 0 = .ok (.aload_n 0, 1) := by decide +kernel
theorem dX6_results_1 : decode cX6_results 1 = .ok (.getfield 10, 3) := by decide +kernel
theorem dX6_results_4 : decode cX6_results 4 = .ok (.getfield 60, 3) := by decide +kernel
theorem dX6_results_7 : decode cX6_results 7 = .ok (.ifCond .eq 10, 3) := by decide +kernel
theorem dX6_results_10 : decode cX6_results 10 = .ok (.aload_n 0, 1) := by decide +kernel
theorem dX6_results_11 : decode cX6_results 11 = .ok (.invokevirtual 219, 3) := by decide +kernel
theorem dX6_results_14 : decode cX6_results 14 = .ok (.goto 5, 3) := by decide +kernel
theorem dX6_results_17 : decode cX6_results 17 = .ok (.bipush (-3), 2) := by decide +kernel
theorem dX6_results_19 : decode cX6_results 19 = .ok (.istore_n 1, 1) := by decide +kernel
theorem dX6_results_20 : decode cX6_results 20 = .ok (.aload_n 0, 1) := by decide +kernel
theorem dX6_results_21 : decode cX6_results 21 = .ok (.getfield 42, 3) := by decide +kernel
theorem dX6_results_24 : decode cX6_results 24 = .ok (.iconst 0, 1) := by decide +kernel
theorem dX6_results_25 : decode cX6_results 25 = .ok (.putfield 213, 3) := by decide +kernel
theorem dX6_results_28 : decode cX6_results 28 = .ok (.iload_n 1, 1) := by decide +kernel
theorem dX6_results_29 : decode cX6_results 29 = .ok (.ireturn, 1) := by decide +kernel
theorem dX6_readResults_0 : decode cX6_readResults 0 = .ok (.aload_n 0, 1) := by decide +kernel
theorem dX6_readResults_1 : decode cX6_readResults 1 = .ok (.getfield 10, 3) := by decide +kernel
theorem dX6_readResults_4 : decode cX6_readResults 4 = .ok (.getfield 148, 3) := by decide +kernel
theorem dX6_readResults_7 : decode cX6_readResults 7 = .ok (.iconst 1, 1) := by decide +kernel
theorem dX6_readResults_8 : decode cX6_readResults 8 = .ok (.isub, 1) := by decide +kernel
theorem dX6_readResults_9 : decode cX6_readResults 9 = .ok (.istore_n 1, 1) := by decide +kernel
theorem dX6_readResults_10 : decode cX6_readResults 10 = .ok (.aload_n 0, 1) := by decide +kernel
theorem dX6_readResults_11 : decode cX6_readResults 11 = .ok (.getfield 10, 3) := by decide +kernel
theorem dX6_readResults_14 : decode cX6_readResults 14 = .ok (.getfield 160, 3) := by decide +kernel
theorem dX6_readResults_17 : decode cX6_readResults 17 = .ok (.iload_n 1, 1) := by decide +kernel
theorem dX6_readResults_18 : decode cX6_readResults 18 = .ok (.invokevirtual 86, 3) := by decide +kernel
theorem dX6_readResults_21 : decode cX6_readResults 21 = .ok (.istore_n 2, 1) := by decide +kernel
theorem dX6_readResults_22 : decode cX6_readResults 22 = .ok (.aload_n 0, 1) := by decide +kernel
theorem dX6_readResults_23 : decode cX6_readResults 23 = .ok (.iload_n 2, 1) := by decide +kernel
theorem dX6_readResults_24 : decode cX6_readResults 24 = .ok (.invokevirtual 222, 3) := by decide +kernel
theorem dX6_readResults_27 : decode cX6_readResults 27 = .ok (.istore_n 3, 1) := by decide +kernel
theorem dX6_readResults_28 : decode cX6_readResults 28 = .ok (.iload_n 3, 1) := by decide +kernel
theorem dX6_readResults_29 : decode cX6_readResults 29 = .ok (.bipush (-5), 2) := by decide +kernel
theorem dX6_readResults_31 : decode cX6_readResults 31 = .ok (.if_icmp .eq 8, 3) := by decide +kernel
theorem dX6_readResults_34 : decode cX6_readResults 34 = .ok (.bipush (-100), 2) := by decide +kernel
theorem dX6_readResults_36 : decode cX6_readResults 36 = .ok (.iload_n 3, 1) := by decide +kernel
theorem dX6_readResults_37 : decode cX6_readResults 37 = .ok (.isub, 1) := by decide +kernel
theorem dX6_readResults_38 : decode cX6_readResults 38 = .ok (.ireturn, 1) := by decide +kernel
theorem dX6_readResults_39 : decode cX6_readResults 39 = .ok (.iconst 0, 1) := by decide +kernel
theorem dX6_readResults_40 : decode cX6_readResults 40 = .ok (.istore 4, 2) := by decide +kernel
theorem dX6_readResults_42 : decode cX6_readResults 42 = .ok (.iload 4, 2) := by decide +kernel
theorem dX6_readResults_44 : decode cX6_readResults 44 = .ok (.iload_n 2, 1) := by decide +kernel
theorem dX6_readResults_45 : decode cX6_readResults 45 = .ok (.if_icmp .ge 49, 3) := by decide +kernel
theorem dX6_readResults_48 : decode cX6_readResults 48 = .ok (.ldc 225, 2) := by decide +kernel
theorem dX6_readResults_50 : decode cX6_readResults 50 = .ok (.aload_n 0, 1) := by decide +kernel
theorem dX6_readResults_51 : decode cX6_readResults 51 = .ok (.getfield 42, 3) := by decide +kernel
theorem dX6_readResults_54 : decode cX6_readResults 54 = .ok (.iload 4, 2) := by decide +kernel
theorem dX6_readResults_56 : decode cX6_readResults 56 = .ok (.invokevirtual 227, 3) := by decide +kernel
theorem dX6_readResults_59 : decode cX6_readResults 59 = .ok (.i2c, 1) := by decide +kernel
theorem dX6_readResults_60 : decode cX6_readResults 60 = .ok (.invokevirtual 230, 3) := by decide +kernel
theorem dX6_readResults_63 : decode cX6_readResults 63 = .ok (.istore 5, 2) := by decide +kernel
theorem dX6_readResults_65 : decode cX6_readResults 65 = .ok (.iload 5, 2) := by decide +kernel
theorem dX6_readResults_67 : decode cX6_readResults 67 = .ok (.ifCond .le 21, 3) := by decide +kernel
theorem dX6_readResults_70 : decode cX6_readResults 70 = .ok (.aload_n 0, 1) := by decide +kernel
theorem dX6_readResults_71 : decode cX6_readResults 71 = .ok (.getfield 10, 3) := by decide +kernel
theorem dX6_readResults_74 : decode cX6_readResults 74 = .ok (.getfield 178, 3) := by decide +kernel
theorem dX6_readResults_77 : decode cX6_readResults 77 = .ok (.iload_n 1, 1) := by decide +kernel
theorem dX6_readResults_78 : decode cX6_readResults 78 = .ok (.iload 4, 2) := by decide +kernel
theorem dX6_readResults_80 : decode cX6_readResults 80 = .ok (.invokestatic 169, 3) := by decide +kernel
theorem dX6_readResults_83 : decode cX6_readResults 83 = .ok (.iload 5, 2) := by decide +kernel
theorem dX6_readResults_85 : decode cX6_readResults 85 = .ok (.invokevirtual 91, 3) := by decide +kernel
theorem dX6_readResults_88 : decode cX6_readResults 88 = .ok (.iinc 4 1, 3) := by decide +kernel
theorem dX6_readResults_91 : decode cX6_readResults 91 = .ok (.goto (-49), 3) := by decide +kernel
theorem dX6_readResults_94 : decode cX6_readResults 94 = .ok (.aload_n 0, 1) := by decide +kernel
theorem dX6_readResults_95 : decode cX6_readResults 95 = .ok (.getfield 10, 3) := by decide +kernel
theorem dX6_readResults_98 : decode cX6_readResults 98 = .ok (.iload_n 1, 1) := by decide +kernel
theorem dX6_readResults_99 : decode cX6_readResults 99 = .ok (.invokevirtual 182, 3) := by decide +kernel
theorem dX6_readResults_102 : decode cX6_readResults 102 = .ok (.ireturn, 1) := by decide +kernel
theorem dX6_faultOfResults_0 : decode cX6_faultOfResults 0 = .ok (.iconst 0, 1) := by decide +kernel
theorem dX6_faultOfResults_1 : decode cX6_faultOfResults 1 = .ok (.istore_n 2, 1) := by decide +kernel
theorem dX6_faultOfResults_2 : decode cX6_faultOfResults 2 = .ok (.iload_n 2, 1) := by decide +kernel
theorem dX6_faultOfResults_3 : decode cX6_faultOfResults 3 = .ok (.iload_n 1, 1) := by decide +kernel
theorem dX6_faultOfResults_4 : decode cX6_faultOfResults 4 = .ok (.if_icmp .ge 39, 3) := by decide +kernel
theorem dX6_faultOfResults_7 : decode cX6_faultOfResults 7 = .ok (.iload_n 2, 1) := by decide +kernel
theorem dX6_faultOfResults_8 : decode cX6_faultOfResults 8 = .ok (.aload_n 0, 1) := by decide +kernel
theorem dX6_faultOfResults_9 : decode cX6_faultOfResults 9 = .ok (.getfield 42, 3) := by decide +kernel
theorem dX6_faultOfResults_12 : decode cX6_faultOfResults 12 = .ok (.getfield 213, 3) := by decide +kernel
theorem dX6_faultOfResults_15 : decode cX6_faultOfResults 15 = .ok (.if_icmp .ge 20, 3) := by decide +kernel
theorem dX6_faultOfResults_18 : decode cX6_faultOfResults 18 = .ok (.ldc 225, 2) := by decide +kernel
theorem dX6_faultOfResults_20 : decode cX6_faultOfResults 20 = .ok (.aload_n 0, 1) := by decide +kernel
theorem dX6_faultOfResults_21 : decode cX6_faultOfResults 21 = .ok (.getfield 42, 3) := by decide +kernel
theorem dX6_faultOfResults_24 : decode cX6_faultOfResults 24 = .ok (.iload_n 2, 1) := by decide +kernel
theorem dX6_faultOfResults_25 : decode cX6_faultOfResults 25 = .ok (.invokevirtual 227, 3) := by decide +kernel
theorem dX6_faultOfResults_28 : decode cX6_faultOfResults 28 = .ok (.i2c, 1) := by decide +kernel
theorem dX6_faultOfResults_29 : decode cX6_faultOfResults 29 = .ok (.invokevirtual 230, 3) := by decide +kernel
theorem dX6_faultOfResults_32 : decode cX6_faultOfResults 32 = .ok (.ifCond .ge 5, 3) := by decide +kernel
theorem dX6_faultOfResults_35 : decode cX6_faultOfResults 35 = .ok (.iload_n 2, 1) := by decide +kernel
theorem dX6_faultOfResults_36 : decode cX6_faultOfResults 36 = .ok (.ireturn, 1) := by decide +kernel
theorem dX6_faultOfResults_37 : decode cX6_faultOfResults 37 = .ok (.iinc 2 1, 3) := by decide +kernel
theorem dX6_faultOfResults_40 : decode cX6_faultOfResults 40 = .ok (.goto (-38), 3) := by decide +kernel
theorem dX6_faultOfResults_43 : decode cX6_faultOfResults 43 = .ok (.aload_n 0, 1) := by decide +kernel
theorem dX6_faultOfResults_44 : decode cX6_faultOfResults 44 = .ok (.getfield 42, 3) := by decide +kernel
theorem dX6_faultOfResults_47 : decode cX6_faultOfResults 47 = .ok (.getfield 213, 3) := by decide +kernel
theorem dX6_faultOfResults_50 : decode cX6_faultOfResults 50 = .ok (.iload_n 1, 1) := by decide +kernel
theorem dX6_faultOfResults_51 : decode cX6_faultOfResults 51 = .ok (.if_icmp .le 7, 3) := by decide +kernel
theorem dX6_faultOfResults_54 : decode cX6_faultOfResults 54 = .ok (.iload_n 1, 1) := by decide +kernel
theorem dX6_faultOfResults_55 : decode cX6_faultOfResults 55 = .ok (.goto 5, 3) := by decide +kernel
theorem dX6_faultOfResults_58 : decode cX6_faultOfResults 58 = .ok (.bipush (-5), 2) := by decide +kernel
theorem dX6_faultOfResults_60 : decode cX6_faultOfResults 60 = .ok (.ireturn, 1) := by decide +kernel
theorem dX6_order_0 : decode cX6_order 0 = .ok (.aload_n 0, 1) := by decide +kernel
theorem dX6_order_1 : decode cX6_order 1 = .ok (.invokevirtual 235, 3) := by decide +kernel
theorem dX6_order_4 : decode cX6_order 4 = .ok (.istore_n 1, 1) := by decide +kernel
theorem dX6_order_5 : decode cX6_order 5 = .ok (.iload_n 1, 1) := by decide +kernel
theorem dX6_order_6 : decode cX6_order 6 = .ok (.bipush (-5), 2) := by decide +kernel
theorem dX6_order_8 : decode cX6_order 8 = .ok (.if_icmp .ne 14, 3) := by decide +kernel
theorem dX6_order_11 : decode cX6_order 11 = .ok (.aload_n 0, 1) := by decide +kernel
theorem dX6_order_12 : decode cX6_order 12 = .ok (.invokevirtual 238, 3) := by decide +kernel
theorem dX6_order_15 : decode cX6_order 15 = .ok (.aload_n 0, 1) := by decide +kernel
theorem dX6_order_16 : decode cX6_order 16 = .ok (.getfield 24, 3) := by decide +kernel
theorem dX6_order_19 : decode cX6_order 19 = .ok (.invokevirtual 72, 3) := by decide +kernel
theorem dX6_order_22 : decode cX6_order 22 = .ok (.aload_n 0, 1) := by decide +kernel
theorem dX6_order_23 : decode cX6_order 23 = .ok (.getfield 42, 3) := by decide +kernel
theorem dX6_order_26 : decode cX6_order 26 = .ok (.iconst 0, 1) := by decide +kernel
theorem dX6_order_27 : decode cX6_order 27 = .ok (.putfield 213, 3) := by decide +kernel
theorem dX6_order_30 : decode cX6_order 30 = .ok (.iload_n 1, 1) := by decide +kernel
theorem dX6_order_31 : decode cX6_order 31 = .ok (.bipush (-5), 2) := by decide +kernel
theorem dX6_order_33 : decode cX6_order 33 = .ok (.if_icmp .ne 13, 3) := by decide +kernel
theorem dX6_order_36 : decode cX6_order 36 = .ok (.aload_n 0, 1) := by decide +kernel
theorem dX6_order_37 : decode cX6_order 37 = .ok (.getfield 10, 3) := by decide +kernel
theorem dX6_order_40 : decode cX6_order 40 = .ok (.getfield 241, 3) := by decide +kernel
theorem dX6_order_43 : decode cX6_order 43 = .ok (.goto 7, 3) := by decide +kernel
theorem dX6_order_46 : decode cX6_order 46 = .ok (.bipush (-100), 2) := by decide +kernel
theorem dX6_order_48 : decode cX6_order 48 = .ok (.iload_n 1, 1) := by decide +kernel
theorem dX6_order_49 : decode cX6_order 49 = .ok (.isub, 1) := by decide +kernel
theorem dX6_order_50 : decode cX6_order 50 = .ok (.ireturn, 1) := by decide +kernel
theorem dX6_faultOfOrder_0 : decode cX6_faultOfOrder 0 = .ok (.iconst 0, 1) := by decide +kernel
theorem dX6_faultOfOrder_1 : decode cX6_faultOfOrder 1 = .ok (.istore_n 1, 1) := by decide +kernel
theorem dX6_faultOfOrder_2 : decode cX6_faultOfOrder 2 = .ok (.iconst 0, 1) := by decide +kernel
theorem dX6_faultOfOrder_3 : decode cX6_faultOfOrder 3 = .ok (.istore_n 2, 1) := by decide +kernel
theorem dX6_faultOfOrder_4 : decode cX6_faultOfOrder 4 = .ok (.iload_n 2, 1) := by decide +kernel
theorem dX6_faultOfOrder_5 : decode cX6_faultOfOrder 5 = .ok (.aload_n 0, 1) := by decide +kernel
theorem dX6_faultOfOrder_6 : decode cX6_faultOfOrder 6 = .ok (.getfield 42, 3) := by decide +kernel
theorem dX6_faultOfOrder_9 : decode cX6_faultOfOrder 9 = .ok (.getfield 213, 3) := by decide +kernel
theorem dX6_faultOfOrder_12 : decode cX6_faultOfOrder 12 = .ok (.if_icmp .ge 44, 3) := by decide +kernel
theorem dX6_faultOfOrder_15 : decode cX6_faultOfOrder 15 = .ok (.ldc 244, 2) := by decide +kernel
theorem dX6_faultOfOrder_17 : decode cX6_faultOfOrder 17 = .ok (.aload_n 0, 1) := by decide +kernel
theorem dX6_faultOfOrder_18 : decode cX6_faultOfOrder 18 = .ok (.getfield 42, 3) := by decide +kernel
theorem dX6_faultOfOrder_21 : decode cX6_faultOfOrder 21 = .ok (.iload_n 2, 1) := by decide +kernel
theorem dX6_faultOfOrder_22 : decode cX6_faultOfOrder 22 = .ok (.invokevirtual 227, 3) := by decide +kernel
theorem dX6_faultOfOrder_25 : decode cX6_faultOfOrder 25 = .ok (.i2c, 1) := by decide +kernel
theorem dX6_faultOfOrder_26 : decode cX6_faultOfOrder 26 = .ok (.invokevirtual 230, 3) := by decide +kernel
theorem dX6_faultOfOrder_29 : decode cX6_faultOfOrder 29 = .ok (.istore_n 3, 1) := by decide +kernel
theorem dX6_faultOfOrder_30 : decode cX6_faultOfOrder 30 = .ok (.iload_n 3, 1) := by decide +kernel
theorem dX6_faultOfOrder_31 : decode cX6_faultOfOrder 31 = .ok (.ifCond .lt 11, 3) := by decide +kernel
theorem dX6_faultOfOrder_34 : decode cX6_faultOfOrder 34 = .ok (.iload_n 1, 1) := by decide +kernel
theorem dX6_faultOfOrder_35 : decode cX6_faultOfOrder 35 = .ok (.iload_n 3, 1) := by decide +kernel
theorem dX6_faultOfOrder_36 : decode cX6_faultOfOrder 36 = .ok (.ishr, 1) := by decide +kernel
theorem dX6_faultOfOrder_37 : decode cX6_faultOfOrder 37 = .ok (.iconst 1, 1) := by decide +kernel
theorem dX6_faultOfOrder_38 : decode cX6_faultOfOrder 38 = .ok (.iand, 1) := by decide +kernel
theorem dX6_faultOfOrder_39 : decode cX6_faultOfOrder 39 = .ok (.ifCond .eq 5, 3) := by decide +kernel
theorem dX6_faultOfOrder_42 : decode cX6_faultOfOrder 42 = .ok (.iload_n 2, 1) := by decide +kernel
theorem dX6_faultOfOrder_43 : decode cX6_faultOfOrder 43 = .ok (.ireturn, 1) := by decide +kernel
theorem dX6_faultOfOrder_44 : decode cX6_faultOfOrder 44 = .ok (.iload_n 1, 1) := by decide +kernel
theorem dX6_faultOfOrder_45 : decode cX6_faultOfOrder 45 = .ok (.iconst 1, 1) := by decide +kernel
theorem dX6_faultOfOrder_46 : decode cX6_faultOfOrder 46 = .ok (.iload_n 3, 1) := by decide +kernel
theorem dX6_faultOfOrder_47 : decode cX6_faultOfOrder 47 = .ok (.ishl, 1) := by decide +kernel
theorem dX6_faultOfOrder_48 : decode cX6_faultOfOrder 48 = .ok (.ior, 1) := by decide +kernel
theorem dX6_faultOfOrder_49 : decode cX6_faultOfOrder 49 = .ok (.istore_n 1, 1) := by decide +kernel
theorem dX6_faultOfOrder_50 : decode cX6_faultOfOrder 50 = .ok (.iinc 2 1, 3) := by decide +kernel
theorem dX6_faultOfOrder_53 : decode cX6_faultOfOrder 53 = .ok (.goto (-49), 3) := by decide +kernel
theorem dX6_faultOfOrder_56 : decode cX6_faultOfOrder 56 = .ok (.aload_n 0, 1) := by decide +kernel
theorem dX6_faultOfOrder_57 : decode cX6_faultOfOrder 57 = .ok (.getfield 42, 3) := by decide +kernel
theorem dX6_faultOfOrder_60 : decode cX6_faultOfOrder 60 = .ok (.getfield 213, 3) := by decide +kernel
theorem dX6_faultOfOrder_63 : decode cX6_faultOfOrder 63 = .ok (.ifCond .ne 7, 3) := by decide +kernel
theorem dX6_faultOfOrder_66 : decode cX6_faultOfOrder 66 = .ok (.iconst 0, 1) := by decide +kernel
theorem dX6_faultOfOrder_67 : decode cX6_faultOfOrder 67 = .ok (.goto 5, 3) := by decide +kernel
theorem dX6_faultOfOrder_70 : decode cX6_faultOfOrder 70 = .ok (.bipush (-5), 2) := by decide +kernel
theorem dX6_faultOfOrder_72 : decode cX6_faultOfOrder 72 = .ok (.ireturn, 1) := by decide +kernel
theorem dX6_readOrder_0 : decode cX6_readOrder 0 = .ok (.iconst 0, 1) := by decide +kernel
theorem dX6_readOrder_1 : decode cX6_readOrder 1 = .ok (.istore_n 1, 1) := by decide +kernel
theorem dX6_readOrder_2 : decode cX6_readOrder 2 = .ok (.iload_n 1, 1) := by decide +kernel
theorem dX6_readOrder_3 : decode cX6_readOrder 3 = .ok (.aload_n 0, 1) := by decide +kernel
theorem dX6_readOrder_4 : decode cX6_readOrder 4 = .ok (.getfield 42, 3) := by decide +kernel
theorem dX6_readOrder_7 : decode cX6_readOrder 7 = .ok (.getfield 213, 3) := by decide +kernel
theorem dX6_readOrder_10 : decode cX6_readOrder 10 = .ok (.if_icmp .ge 38, 3) := by decide +kernel
theorem dX6_readOrder_13 : decode cX6_readOrder 13 = .ok (.aload_n 0, 1) := by decide +kernel
theorem dX6_readOrder_14 : decode cX6_readOrder 14 = .ok (.getfield 10, 3) := by decide +kernel
theorem dX6_readOrder_17 : decode cX6_readOrder 17 = .ok (.getfield 246, 3) := by decide +kernel
theorem dX6_readOrder_20 : decode cX6_readOrder 20 = .ok (.iload_n 1, 1) := by decide +kernel
theorem dX6_readOrder_21 : decode cX6_readOrder 21 = .ok (.iconst 1, 1) := by decide +kernel
theorem dX6_readOrder_22 : decode cX6_readOrder 22 = .ok (.iadd, 1) := by decide +kernel
theorem dX6_readOrder_23 : decode cX6_readOrder 23 = .ok (.ldc 244, 2) := by decide +kernel
theorem dX6_readOrder_25 : decode cX6_readOrder 25 = .ok (.aload_n 0, 1) := by decide +kernel
theorem dX6_readOrder_26 : decode cX6_readOrder 26 = .ok (.getfield 42, 3) := by decide +kernel
theorem dX6_readOrder_29 : decode cX6_readOrder 29 = .ok (.iload_n 1, 1) := by decide +kernel
theorem dX6_readOrder_30 : decode cX6_readOrder 30 = .ok (.invokevirtual 227, 3) := by decide +kernel
theorem dX6_readOrder_33 : decode cX6_readOrder 33 = .ok (.i2c, 1) := by decide +kernel
theorem dX6_readOrder_34 : decode cX6_readOrder 34 = .ok (.invokevirtual 230, 3) := by decide +kernel
theorem dX6_readOrder_37 : decode cX6_readOrder 37 = .ok (.iconst 1, 1) := by decide +kernel
theorem dX6_readOrder_38 : decode cX6_readOrder 38 = .ok (.iadd, 1) := by decide +kernel
theorem dX6_readOrder_39 : decode cX6_readOrder 39 = .ok (.invokevirtual 91, 3) := by decide +kernel
theorem dX6_readOrder_42 : decode cX6_readOrder 42 = .ok (.iinc 1 1, 3) := by decide +kernel
theorem dX6_readOrder_45 : decode cX6_readOrder 45 = .ok (.goto (-43), 3) := by decide +kernel
theorem dX6_readOrder_48 : decode cX6_readOrder 48 = .ok (.aload_n 0, 1) := by decide +kernel
theorem dX6_readOrder_49 : decode cX6_readOrder 49 = .ok (.getfield 10, 3) := by decide +kernel
theorem dX6_readOrder_52 : decode cX6_readOrder 52 = .ok (.aload_n 0, 1) := by decide +kernel
theorem dX6_readOrder_53 : decode cX6_readOrder 53 = .ok (.getfield 42, 3) := by decide +kernel
theorem dX6_readOrder_56 : decode cX6_readOrder 56 = .ok (.getfield 213, 3) := by decide +kernel
theorem dX6_readOrder_59 : decode cX6_readOrder 59 = .ok (.iconst 1, 1) := by decide +kernel
theorem dX6_readOrder_60 : decode cX6_readOrder 60 = .ok (.iadd, 1) := by decide +kernel
theorem dX6_readOrder_61 : decode cX6_readOrder 61 = .ok (.putfield 241, 3) := by decide +kernel
theorem dX6_readOrder_64 : decode cX6_readOrder 64 = .ok (.return_, 1) := by decide +kernel
theorem dX6_ordered_0 : decode cX6_ordered 0 = .ok (.iload_n 1, 1) := by decide +kernel
theorem dX6_ordered_1 : decode cX6_ordered 1 = .ok (.ifCond .ge 5, 3) := by decide +kernel
theorem dX6_ordered_4 : decode cX6_ordered 4 = .ok (.iconst (-1), 1) := by decide +kernel
theorem dX6_ordered_5 : decode cX6_ordered 5 = .ok (.ireturn, 1) := by decide +kernel
theorem dX6_ordered_6 : decode cX6_ordered 6 = .ok (.iload_n 1, 1) := by decide +kernel
theorem dX6_ordered_7 : decode cX6_ordered 7 = .ok (.aload_n 0, 1) := by decide +kernel
theorem dX6_ordered_8 : decode cX6_ordered 8 = .ok (.getfield 10, 3) := by decide +kernel
theorem dX6_ordered_11 : decode cX6_ordered 11 = .ok (.getfield 241, 3) := by decide +kernel
theorem dX6_ordered_14 : decode cX6_ordered 14 = .ok (.if_icmp .ge 17, 3) := by decide +kernel
theorem dX6_ordered_17 : decode cX6_ordered 17 = .ok (.aload_n 0, 1) := by decide +kernel
theorem dX6_ordered_18 : decode cX6_ordered 18 = .ok (.getfield 10, 3) := by decide +kernel
theorem dX6_ordered_21 : decode cX6_ordered 21 = .ok (.getfield 246, 3) := by decide +kernel
theorem dX6_ordered_24 : decode cX6_ordered 24 = .ok (.iload_n 1, 1) := by decide +kernel
theorem dX6_ordered_25 : decode cX6_ordered 25 = .ok (.invokevirtual 86, 3) := by decide +kernel
theorem dX6_ordered_28 : decode cX6_ordered 28 = .ok (.goto 5, 3) := by decide +kernel
theorem dX6_ordered_31 : decode cX6_ordered 31 = .ok (.bipush (-5), 2) := by decide +kernel
theorem dX6_ordered_33 : decode cX6_ordered 33 = .ok (.ireturn, 1) := by decide +kernel
theorem dX6_line_0 : decode cX6_line 0 = .ok (.aload_n 0, 1) := by decide +kernel
theorem dX6_line_1 : decode cX6_line 1 = .ok (.iload_n 1, 1) := by decide +kernel
theorem dX6_line_2 : decode cX6_line 2 = .ok (.invokevirtual 79, 3) := by decide +kernel
theorem dX6_line_5 : decode cX6_line 5 = .ok (.ifCond .ne 5, 3) := by decide +kernel
theorem dX6_line_8 : decode cX6_line 8 = .ok (.iconst (-1), 1) := by decide +kernel
theorem dX6_line_9 : decode cX6_line 9 = .ok (.ireturn, 1) := by decide +kernel
theorem dX6_line_10 : decode cX6_line 10 = .ok (.aload_n 0, 1) := by decide +kernel
theorem dX6_line_11 : decode cX6_line 11 = .ok (.getfield 46, 3) := by decide +kernel
theorem dX6_line_14 : decode cX6_line 14 = .ok (.iconst 0, 1) := by decide +kernel
theorem dX6_line_15 : decode cX6_line 15 = .ok (.putfield 213, 3) := by decide +kernel
theorem dX6_line_18 : decode cX6_line 18 = .ok (.aload_n 0, 1) := by decide +kernel
theorem dX6_line_19 : decode cX6_line 19 = .ok (.getfield 46, 3) := by decide +kernel
theorem dX6_line_22 : decode cX6_line 22 = .ok (.iload_n 1, 1) := by decide +kernel
theorem dX6_line_23 : decode cX6_line 23 = .ok (.invokevirtual 249, 3) := by decide +kernel
theorem dX6_line_26 : decode cX6_line 26 = .ok (.aload_n 0, 1) := by decide +kernel
theorem dX6_line_27 : decode cX6_line 27 = .ok (.getfield 46, 3) := by decide +kernel
theorem dX6_line_30 : decode cX6_line 30 = .ok (.bipush 32, 2) := by decide +kernel
theorem dX6_line_32 : decode cX6_line 32 = .ok (.invokevirtual 216, 3) := by decide +kernel
theorem dX6_line_35 : decode cX6_line 35 = .ok (.aload_n 0, 1) := by decide +kernel
theorem dX6_line_36 : decode cX6_line 36 = .ok (.aload_n 0, 1) := by decide +kernel
theorem dX6_line_37 : decode cX6_line 37 = .ok (.getfield 24, 3) := by decide +kernel
theorem dX6_line_40 : decode cX6_line 40 = .ok (.iload_n 1, 1) := by decide +kernel
theorem dX6_line_41 : decode cX6_line 41 = .ok (.iconst 0, 1) := by decide +kernel
theorem dX6_line_42 : decode cX6_line 42 = .ok (.invokevirtual 102, 3) := by decide +kernel
theorem dX6_line_45 : decode cX6_line 45 = .ok (.invokevirtual 252, 3) := by decide +kernel
theorem dX6_line_48 : decode cX6_line 48 = .ok (.iconst 0, 1) := by decide +kernel
theorem dX6_line_49 : decode cX6_line 49 = .ok (.istore_n 2, 1) := by decide +kernel
theorem dX6_line_50 : decode cX6_line 50 = .ok (.iload_n 2, 1) := by decide +kernel
theorem dX6_line_51 : decode cX6_line 51 = .ok (.aload_n 0, 1) := by decide +kernel
theorem dX6_line_52 : decode cX6_line 52 = .ok (.getfield 10, 3) := by decide +kernel
theorem dX6_line_55 : decode cX6_line 55 = .ok (.invokevirtual 195, 3) := by decide +kernel
theorem dX6_line_58 : decode cX6_line 58 = .ok (.if_icmp .ge 24, 3) := by decide +kernel
theorem dX6_line_61 : decode cX6_line 61 = .ok (.aload_n 0, 1) := by decide +kernel
theorem dX6_line_62 : decode cX6_line 62 = .ok (.getfield 46, 3) := by decide +kernel
theorem dX6_line_65 : decode cX6_line 65 = .ok (.bipush 32, 2) := by decide +kernel
theorem dX6_line_67 : decode cX6_line 67 = .ok (.invokevirtual 216, 3) := by decide +kernel
theorem dX6_line_70 : decode cX6_line 70 = .ok (.aload_n 0, 1) := by decide +kernel
theorem dX6_line_71 : decode cX6_line 71 = .ok (.iload_n 1, 1) := by decide +kernel
theorem dX6_line_72 : decode cX6_line 72 = .ok (.iload_n 2, 1) := by decide +kernel
theorem dX6_line_73 : decode cX6_line 73 = .ok (.invokevirtual 255, 3) := by decide +kernel
theorem dX6_line_76 : decode cX6_line 76 = .ok (.iinc 2 1, 3) := by decide +kernel
theorem dX6_line_79 : decode cX6_line 79 = .ok (.goto (-29), 3) := by decide +kernel
theorem dX6_line_82 : decode cX6_line 82 = .ok (.aload_n 0, 1) := by decide +kernel
theorem dX6_line_83 : decode cX6_line 83 = .ok (.getfield 46, 3) := by decide +kernel
theorem dX6_line_86 : decode cX6_line 86 = .ok (.getfield 213, 3) := by decide +kernel
theorem dX6_line_89 : decode cX6_line 89 = .ok (.ireturn, 1) := by decide +kernel
theorem dX6_writeHalved_0 : decode cX6_writeHalved 0 = .ok (.aload_n 0, 1) := by decide +kernel
theorem dX6_writeHalved_1 : decode cX6_writeHalved 1 = .ok (.getfield 46, 3) := by decide +kernel
theorem dX6_writeHalved_4 : decode cX6_writeHalved 4 = .ok (.iload_n 1, 1) := by decide +kernel
theorem dX6_writeHalved_5 : decode cX6_writeHalved 5 = .ok (.iconst 2, 1) := by decide +kernel
theorem dX6_writeHalved_6 : decode cX6_writeHalved 6 = .ok (.idiv, 1) := by decide +kernel
theorem dX6_writeHalved_7 : decode cX6_writeHalved 7 = .ok (.invokevirtual 249, 3) := by decide +kernel
theorem dX6_writeHalved_10 : decode cX6_writeHalved 10 = .ok (.iload_n 1, 1) := by decide +kernel
theorem dX6_writeHalved_11 : decode cX6_writeHalved 11 = .ok (.iconst 2, 1) := by decide +kernel
theorem dX6_writeHalved_12 : decode cX6_writeHalved 12 = .ok (.irem, 1) := by decide +kernel
theorem dX6_writeHalved_13 : decode cX6_writeHalved 13 = .ok (.ifCond .eq 21, 3) := by decide +kernel
theorem dX6_writeHalved_16 : decode cX6_writeHalved 16 = .ok (.aload_n 0, 1) := by decide +kernel
theorem dX6_writeHalved_17 : decode cX6_writeHalved 17 = .ok (.getfield 46, 3) := by decide +kernel
theorem dX6_writeHalved_20 : decode cX6_writeHalved 20 = .ok (.bipush 46, 2) := by decide +kernel
theorem dX6_writeHalved_22 : decode cX6_writeHalved 22 = .ok (.invokevirtual 216, 3) := by decide +kernel
theorem dX6_writeHalved_25 : decode cX6_writeHalved 25 = .ok (.aload_n 0, 1) := by decide +kernel
theorem dX6_writeHalved_26 : decode cX6_writeHalved 26 = .ok (.getfield 46, 3) := by decide +kernel
theorem dX6_writeHalved_29 : decode cX6_writeHalved 29 = .ok (.bipush 53, 2) := by decide +kernel
theorem dX6_writeHalved_31 : decode cX6_writeHalved 31 = .ok (.invokevirtual 216, 3) := by decide +kernel
theorem dX6_writeHalved_34 : decode cX6_writeHalved 34 = .ok (.return_, 1) := by decide +kernel
theorem dX6_writeRound_0 : decode cX6_writeRound 0 = .ok (.aload_n 0, 1) := by decide +kernel
theorem dX6_writeRound_1 : decode cX6_writeRound 1 = .ok (.getfield 10, 3) := by decide +kernel
theorem dX6_writeRound_4 : decode cX6_writeRound 4 = .ok (.iload_n 2, 1) := by decide +kernel
theorem dX6_writeRound_5 : decode cX6_writeRound 5 = .ok (.iload_n 1, 1) := by decide +kernel
theorem dX6_writeRound_6 : decode cX6_writeRound 6 = .ok (.invokevirtual 185, 3) := by decide +kernel
theorem dX6_writeRound_9 : decode cX6_writeRound 9 = .ok (.istore_n 3, 1) := by decide +kernel
theorem dX6_writeRound_10 : decode cX6_writeRound 10 = .ok (.iload_n 3, 1) := by decide +kernel
theorem dX6_writeRound_11 : decode cX6_writeRound 11 = .ok (.ifCond .ge 33, 3) := by decide +kernel
theorem dX6_writeRound_14 : decode cX6_writeRound 14 = .ok (.aload_n 0, 1) := by decide +kernel
theorem dX6_writeRound_15 : decode cX6_writeRound 15 = .ok (.getfield 46, 3) := by decide +kernel
theorem dX6_writeRound_18 : decode cX6_writeRound 18 = .ok (.aload_n 0, 1) := by decide +kernel
theorem dX6_writeRound_19 : decode cX6_writeRound 19 = .ok (.getfield 10, 3) := by decide +kernel
theorem dX6_writeRound_22 : decode cX6_writeRound 22 = .ok (.getfield 181, 3) := by decide +kernel
theorem dX6_writeRound_25 : decode cX6_writeRound 25 = .ok (.iload_n 2, 1) := by decide +kernel
theorem dX6_writeRound_26 : decode cX6_writeRound 26 = .ok (.invokevirtual 86, 3) := by decide +kernel
theorem dX6_writeRound_29 : decode cX6_writeRound 29 = .ok (.iload_n 1, 1) := by decide +kernel
theorem dX6_writeRound_30 : decode cX6_writeRound 30 = .ok (.if_icmp .ne 8, 3) := by decide +kernel
theorem dX6_writeRound_33 : decode cX6_writeRound 33 = .ok (.bipush 66, 2) := by decide +kernel
theorem dX6_writeRound_35 : decode cX6_writeRound 35 = .ok (.goto 5, 3) := by decide +kernel
theorem dX6_writeRound_38 : decode cX6_writeRound 38 = .ok (.bipush 122, 2) := by decide +kernel
theorem dX6_writeRound_40 : decode cX6_writeRound 40 = .ok (.invokevirtual 216, 3) := by decide +kernel
theorem dX6_writeRound_43 : decode cX6_writeRound 43 = .ok (.return_, 1) := by decide +kernel
theorem dX6_writeRound_44 : decode cX6_writeRound 44 = .ok (.aload_n 0, 1) := by decide +kernel
theorem dX6_writeRound_45 : decode cX6_writeRound 45 = .ok (.getfield 46, 3) := by decide +kernel
theorem dX6_writeRound_48 : decode cX6_writeRound 48 = .ok (.aload_n 0, 1) := by decide +kernel
theorem dX6_writeRound_49 : decode cX6_writeRound 49 = .ok (.getfield 10, 3) := by decide +kernel
theorem dX6_writeRound_52 : decode cX6_writeRound 52 = .ok (.iload_n 2, 1) := by decide +kernel
theorem dX6_writeRound_53 : decode cX6_writeRound 53 = .ok (.iload_n 3, 1) := by decide +kernel
theorem dX6_writeRound_54 : decode cX6_writeRound 54 = .ok (.iload_n 1, 1) := by decide +kernel
theorem dX6_writeRound_55 : decode cX6_writeRound 55 = .ok (.invokevirtual 188, 3) := by decide +kernel
theorem dX6_writeRound_58 : decode cX6_writeRound 58 = .ok (.invokevirtual 249, 3) := by decide +kernel
theorem dX6_writeRound_61 : decode cX6_writeRound 61 = .ok (.aload_n 0, 1) := by decide +kernel
theorem dX6_writeRound_62 : decode cX6_writeRound 62 = .ok (.getfield 46, 3) := by decide +kernel
theorem dX6_writeRound_65 : decode cX6_writeRound 65 = .ok (.aload_n 0, 1) := by decide +kernel
theorem dX6_writeRound_66 : decode cX6_writeRound 66 = .ok (.getfield 10, 3) := by decide +kernel
theorem dX6_writeRound_69 : decode cX6_writeRound 69 = .ok (.iload_n 2, 1) := by decide +kernel
theorem dX6_writeRound_70 : decode cX6_writeRound 70 = .ok (.iload_n 3, 1) := by decide +kernel
theorem dX6_writeRound_71 : decode cX6_writeRound 71 = .ok (.iload_n 1, 1) := by decide +kernel
theorem dX6_writeRound_72 : decode cX6_writeRound 72 = .ok (.invokevirtual 201, 3) := by decide +kernel
theorem dX6_writeRound_75 : decode cX6_writeRound 75 = .ok (.invokestatic 258, 3) := by decide +kernel
theorem dX6_writeRound_78 : decode cX6_writeRound 78 = .ok (.invokevirtual 216, 3) := by decide +kernel
theorem dX6_writeRound_81 : decode cX6_writeRound 81 = .ok (.return_, 1) := by decide +kernel
theorem dX6_markFor_0 : decode cX6_markFor 0 = .ok (.iload_n 0, 1) := by decide +kernel
theorem dX6_markFor_1 : decode cX6_markFor 1 = .ok (.tableswitch 43 1 4 #[31, 34, 37, 40], 31) := by decide +kernel
theorem dX6_markFor_32 : decode cX6_markFor 32 = .ok (.bipush 49, 2) := by decide +kernel
theorem dX6_markFor_34 : decode cX6_markFor 34 = .ok (.ireturn, 1) := by decide +kernel
theorem dX6_markFor_35 : decode cX6_markFor 35 = .ok (.bipush 61, 2) := by decide +kernel
theorem dX6_markFor_37 : decode cX6_markFor 37 = .ok (.ireturn, 1) := by decide +kernel
theorem dX6_markFor_38 : decode cX6_markFor 38 = .ok (.bipush 48, 2) := by decide +kernel
theorem dX6_markFor_40 : decode cX6_markFor 40 = .ok (.ireturn, 1) := by decide +kernel
theorem dX6_markFor_41 : decode cX6_markFor 41 = .ok (.bipush 43, 2) := by decide +kernel
theorem dX6_markFor_43 : decode cX6_markFor 43 = .ok (.ireturn, 1) := by decide +kernel
theorem dX6_markFor_44 : decode cX6_markFor 44 = .ok (.bipush 45, 2) := by decide +kernel
theorem dX6_markFor_46 : decode cX6_markFor 46 = .ok (.ireturn, 1) := by decide +kernel
theorem dX6_paper_0 : decode cX6_paper 0 = .ok (.iload_n 1, 1) := by decide +kernel
theorem dX6_paper_1 : decode cX6_paper 1 = .ok (.ifCond .lt 25, 3) := by decide +kernel
theorem dX6_paper_4 : decode cX6_paper 4 = .ok (.iload_n 1, 1) := by decide +kernel
theorem dX6_paper_5 : decode cX6_paper 5 = .ok (.aload_n 0, 1) := by decide +kernel
theorem dX6_paper_6 : decode cX6_paper 6 = .ok (.getfield 46, 3) := by decide +kernel
theorem dX6_paper_9 : decode cX6_paper 9 = .ok (.getfield 213, 3) := by decide +kernel
theorem dX6_paper_12 : decode cX6_paper 12 = .ok (.if_icmp .ge 14, 3) := by decide +kernel
theorem dX6_paper_15 : decode cX6_paper 15 = .ok (.aload_n 0, 1) := by decide +kernel
theorem dX6_paper_16 : decode cX6_paper 16 = .ok (.getfield 46, 3) := by decide +kernel
theorem dX6_paper_19 : decode cX6_paper 19 = .ok (.iload_n 1, 1) := by decide +kernel
theorem dX6_paper_20 : decode cX6_paper 20 = .ok (.invokevirtual 227, 3) := by decide +kernel
theorem dX6_paper_23 : decode cX6_paper 23 = .ok (.goto 4, 3) := by decide +kernel
theorem dX6_paper_26 : decode cX6_paper 26 = .ok (.iconst (-1), 1) := by decide +kernel
theorem dX6_paper_27 : decode cX6_paper 27 = .ok (.ireturn, 1) := by decide +kernel
theorem dX6_told_0 : decode cX6_told 0 = .ok (.iload_n 1, 1) := by decide +kernel
theorem dX6_told_1 : decode cX6_told 1 = .ok (.tableswitch 150 0 8 #[51, 59, 67, 75, 83, 118, 126, 134, 142], 51) := by decide +kernel
theorem dX6_told_52 : decode cX6_told 52 = .ok (.aload_n 0, 1) := by decide +kernel
theorem dX6_told_53 : decode cX6_told 53 = .ok (.getfield 10, 3) := by decide +kernel
theorem dX6_told_56 : decode cX6_told 56 = .ok (.getfield 64, 3) := by decide +kernel
theorem dX6_told_59 : decode cX6_told 59 = .ok (.ireturn, 1) := by decide +kernel
theorem dX6_told_60 : decode cX6_told 60 = .ok (.aload_n 0, 1) := by decide +kernel
theorem dX6_told_61 : decode cX6_told 61 = .ok (.getfield 10, 3) := by decide +kernel
theorem dX6_told_64 : decode cX6_told 64 = .ok (.invokevirtual 95, 3) := by decide +kernel
theorem dX6_told_67 : decode cX6_told 67 = .ok (.ireturn, 1) := by decide +kernel
theorem dX6_told_68 : decode cX6_told 68 = .ok (.aload_n 0, 1) := by decide +kernel
theorem dX6_told_69 : decode cX6_told 69 = .ok (.getfield 10, 3) := by decide +kernel
theorem dX6_told_72 : decode cX6_told 72 = .ok (.getfield 148, 3) := by decide +kernel
theorem dX6_told_75 : decode cX6_told 75 = .ok (.ireturn, 1) := by decide +kernel
theorem dX6_told_76 : decode cX6_told 76 = .ok (.aload_n 0, 1) := by decide +kernel
theorem dX6_told_77 : decode cX6_told 77 = .ok (.getfield 10, 3) := by decide +kernel
theorem dX6_told_80 : decode cX6_told 80 = .ok (.invokevirtual 195, 3) := by decide +kernel
theorem dX6_told_83 : decode cX6_told 83 = .ok (.ireturn, 1) := by decide +kernel
theorem dX6_told_84 : decode cX6_told 84 = .ok (.aload_n 0, 1) := by decide +kernel
theorem dX6_told_85 : decode cX6_told 85 = .ok (.getfield 10, 3) := by decide +kernel
theorem dX6_told_88 : decode cX6_told 88 = .ok (.getfield 60, 3) := by decide +kernel
theorem dX6_told_91 : decode cX6_told 91 = .ok (.ifCond .eq 25, 3) := by decide +kernel
theorem dX6_told_94 : decode cX6_told 94 = .ok (.aload_n 0, 1) := by decide +kernel
theorem dX6_told_95 : decode cX6_told 95 = .ok (.getfield 10, 3) := by decide +kernel
theorem dX6_told_98 : decode cX6_told 98 = .ok (.getfield 160, 3) := by decide +kernel
theorem dX6_told_101 : decode cX6_told 101 = .ok (.aload_n 0, 1) := by decide +kernel
theorem dX6_told_102 : decode cX6_told 102 = .ok (.getfield 10, 3) := by decide +kernel
theorem dX6_told_105 : decode cX6_told 105 = .ok (.getfield 148, 3) := by decide +kernel
theorem dX6_told_108 : decode cX6_told 108 = .ok (.iconst 1, 1) := by decide +kernel
theorem dX6_told_109 : decode cX6_told 109 = .ok (.isub, 1) := by decide +kernel
theorem dX6_told_110 : decode cX6_told 110 = .ok (.invokevirtual 86, 3) := by decide +kernel
theorem dX6_told_113 : decode cX6_told 113 = .ok (.goto 5, 3) := by decide +kernel
theorem dX6_told_116 : decode cX6_told 116 = .ok (.bipush (-5), 2) := by decide +kernel
theorem dX6_told_118 : decode cX6_told 118 = .ok (.ireturn, 1) := by decide +kernel
theorem dX6_told_119 : decode cX6_told 119 = .ok (.aload_n 0, 1) := by decide +kernel
theorem dX6_told_120 : decode cX6_told 120 = .ok (.getfield 42, 3) := by decide +kernel
theorem dX6_told_123 : decode cX6_told 123 = .ok (.getfield 213, 3) := by decide +kernel
theorem dX6_told_126 : decode cX6_told 126 = .ok (.ireturn, 1) := by decide +kernel
theorem dX6_told_127 : decode cX6_told 127 = .ok (.aload_n 0, 1) := by decide +kernel
theorem dX6_told_128 : decode cX6_told 128 = .ok (.getfield 46, 3) := by decide +kernel
theorem dX6_told_131 : decode cX6_told 131 = .ok (.getfield 213, 3) := by decide +kernel
theorem dX6_told_134 : decode cX6_told 134 = .ok (.ireturn, 1) := by decide +kernel
theorem dX6_told_135 : decode cX6_told 135 = .ok (.aload_n 0, 1) := by decide +kernel
theorem dX6_told_136 : decode cX6_told 136 = .ok (.getfield 24, 3) := by decide +kernel
theorem dX6_told_139 : decode cX6_told 139 = .ok (.invokevirtual 262, 3) := by decide +kernel
theorem dX6_told_142 : decode cX6_told 142 = .ok (.ireturn, 1) := by decide +kernel
theorem dX6_told_143 : decode cX6_told 143 = .ok (.aload_n 0, 1) := by decide +kernel
theorem dX6_told_144 : decode cX6_told 144 = .ok (.getfield 24, 3) := by decide +kernel
theorem dX6_told_147 : decode cX6_told 147 = .ok (.invokevirtual 265, 3) := by decide +kernel
theorem dX6_told_150 : decode cX6_told 150 = .ok (.ireturn, 1) := by decide +kernel
theorem dX6_told_151 : decode cX6_told 151 = .ok (.iconst (-1), 1) := by decide +kernel
theorem dX6_told_152 : decode cX6_told 152 = .ok (.ireturn, 1) := by decide +kernel
theorem dX6_list_0 : decode cX6_list 0 = .ok (.iload_n 1, 1) := by decide +kernel
theorem dX6_list_1 : decode cX6_list 1 = .ok (.invokestatic 268, 3) := by decide +kernel
theorem dX6_list_4 : decode cX6_list 4 = .ok (.ifCond .ne 5, 3) := by decide +kernel
theorem dX6_list_7 : decode cX6_list 7 = .ok (.iconst (-1), 1) := by decide +kernel
theorem dX6_list_8 : decode cX6_list 8 = .ok (.ireturn, 1) := by decide +kernel
theorem dX6_list_9 : decode cX6_list 9 = .ok (.iload_n 2, 1) := by decide +kernel
theorem dX6_list_10 : decode cX6_list 10 = .ok (.bipush 20, 2) := by decide +kernel
theorem dX6_list_12 : decode cX6_list 12 = .ok (.if_icmp .le 6, 3) := by decide +kernel
theorem dX6_list_15 : decode cX6_list 15 = .ok (.bipush (-2), 2) := by decide +kernel
theorem dX6_list_17 : decode cX6_list 17 = .ok (.ireturn, 1) := by decide +kernel
theorem dX6_list_18 : decode cX6_list 18 = .ok (.iload_n 2, 1) := by decide +kernel
theorem dX6_list_19 : decode cX6_list 19 = .ok (.ifCond .ge 6, 3) := by decide +kernel
theorem dX6_list_22 : decode cX6_list 22 = .ok (.bipush (-14), 2) := by decide +kernel
theorem dX6_list_24 : decode cX6_list 24 = .ok (.ireturn, 1) := by decide +kernel
theorem dX6_list_25 : decode cX6_list 25 = .ok (.aload_n 0, 1) := by decide +kernel
theorem dX6_list_26 : decode cX6_list 26 = .ok (.getfield 52, 3) := by decide +kernel
theorem dX6_list_29 : decode cX6_list 29 = .ok (.iload_n 1, 1) := by decide +kernel
theorem dX6_list_30 : decode cX6_list 30 = .ok (.iload_n 2, 1) := by decide +kernel
theorem dX6_list_31 : decode cX6_list 31 = .ok (.invokevirtual 271, 3) := by decide +kernel
theorem dX6_list_34 : decode cX6_list 34 = .ok (.iconst 1, 1) := by decide +kernel
theorem dX6_list_35 : decode cX6_list 35 = .ok (.ireturn, 1) := by decide +kernel
theorem dX6_set_0 : decode cX6_set 0 = .ok (.aload_n 0, 1) := by decide +kernel
theorem dX6_set_1 : decode cX6_set 1 = .ok (.iload_n 1, 1) := by decide +kernel
theorem dX6_set_2 : decode cX6_set 2 = .ok (.invokevirtual 274, 3) := by decide +kernel
theorem dX6_set_5 : decode cX6_set 5 = .ok (.istore 4, 2) := by decide +kernel
theorem dX6_set_7 : decode cX6_set 7 = .ok (.iload 4, 2) := by decide +kernel
theorem dX6_set_9 : decode cX6_set 9 = .ok (.ifCond .eq 6, 3) := by decide +kernel
theorem dX6_set_12 : decode cX6_set 12 = .ok (.iload 4, 2) := by decide +kernel
theorem dX6_set_14 : decode cX6_set 14 = .ok (.ireturn, 1) := by decide +kernel
theorem dX6_set_15 : decode cX6_set 15 = .ok (.aload_n 0, 1) := by decide +kernel
theorem dX6_set_16 : decode cX6_set 16 = .ok (.getfield 52, 3) := by decide +kernel
theorem dX6_set_19 : decode cX6_set 19 = .ok (.iload_n 1, 1) := by decide +kernel
theorem dX6_set_20 : decode cX6_set 20 = .ok (.iload_n 2, 1) := by decide +kernel
theorem dX6_set_21 : decode cX6_set 21 = .ok (.invokevirtual 277, 3) := by decide +kernel
theorem dX6_set_24 : decode cX6_set 24 = .ok (.ifCond .ne 6, 3) := by decide +kernel
theorem dX6_set_27 : decode cX6_set 27 = .ok (.bipush (-13), 2) := by decide +kernel
theorem dX6_set_29 : decode cX6_set 29 = .ok (.ireturn, 1) := by decide +kernel
theorem dX6_set_30 : decode cX6_set 30 = .ok (.aload_n 0, 1) := by decide +kernel
theorem dX6_set_31 : decode cX6_set 31 = .ok (.getfield 52, 3) := by decide +kernel
theorem dX6_set_34 : decode cX6_set 34 = .ok (.iload_n 1, 1) := by decide +kernel
theorem dX6_set_35 : decode cX6_set 35 = .ok (.iload_n 2, 1) := by decide +kernel
theorem dX6_set_36 : decode cX6_set 36 = .ok (.iload_n 3, 1) := by decide +kernel
theorem dX6_set_37 : decode cX6_set 37 = .ok (.invokevirtual 280, 3) := by decide +kernel
theorem dX6_set_40 : decode cX6_set 40 = .ok (.iconst 1, 1) := by decide +kernel
theorem dX6_set_41 : decode cX6_set 41 = .ok (.ireturn, 1) := by decide +kernel
theorem dX6_get_0 : decode cX6_get 0 = .ok (.aload_n 0, 1) := by decide +kernel
theorem dX6_get_1 : decode cX6_get 1 = .ok (.iload_n 1, 1) := by decide +kernel
theorem dX6_get_2 : decode cX6_get 2 = .ok (.invokevirtual 274, 3) := by decide +kernel
theorem dX6_get_5 : decode cX6_get 5 = .ok (.ifCond .ne 15, 3) := by decide +kernel
theorem dX6_get_8 : decode cX6_get 8 = .ok (.aload_n 0, 1) := by decide +kernel
theorem dX6_get_9 : decode cX6_get 9 = .ok (.getfield 52, 3) := by decide +kernel
theorem dX6_get_12 : decode cX6_get 12 = .ok (.iload_n 1, 1) := by decide +kernel
theorem dX6_get_13 : decode cX6_get 13 = .ok (.iload_n 2, 1) := by decide +kernel
theorem dX6_get_14 : decode cX6_get 14 = .ok (.invokevirtual 277, 3) := by decide +kernel
theorem dX6_get_17 : decode cX6_get 17 = .ok (.ifCond .ne 7, 3) := by decide +kernel
theorem dX6_get_20 : decode cX6_get 20 = .ok (.ldc_w 284, 3) := by decide +kernel
theorem dX6_get_23 : decode cX6_get 23 = .ok (.ireturn, 1) := by decide +kernel
theorem dX6_get_24 : decode cX6_get 24 = .ok (.aload_n 0, 1) := by decide +kernel
theorem dX6_get_25 : decode cX6_get 25 = .ok (.getfield 52, 3) := by decide +kernel
theorem dX6_get_28 : decode cX6_get 28 = .ok (.iload_n 1, 1) := by decide +kernel
theorem dX6_get_29 : decode cX6_get 29 = .ok (.iload_n 2, 1) := by decide +kernel
theorem dX6_get_30 : decode cX6_get 30 = .ok (.invokevirtual 285, 3) := by decide +kernel
theorem dX6_get_33 : decode cX6_get 33 = .ok (.ireturn, 1) := by decide +kernel
theorem dX6_lay_0 : decode cX6_lay 0 = .ok (.aload_n 0, 1) := by decide +kernel
theorem dX6_lay_1 : decode cX6_lay 1 = .ok (.iload_n 1, 1) := by decide +kernel
theorem dX6_lay_2 : decode cX6_lay 2 = .ok (.invokevirtual 274, 3) := by decide +kernel
theorem dX6_lay_5 : decode cX6_lay 5 = .ok (.istore_n 3, 1) := by decide +kernel
theorem dX6_lay_6 : decode cX6_lay 6 = .ok (.iload_n 3, 1) := by decide +kernel
theorem dX6_lay_7 : decode cX6_lay 7 = .ok (.ifCond .eq 5, 3) := by decide +kernel
theorem dX6_lay_10 : decode cX6_lay 10 = .ok (.iload_n 3, 1) := by decide +kernel
theorem dX6_lay_11 : decode cX6_lay 11 = .ok (.ireturn, 1) := by decide +kernel
theorem dX6_lay_12 : decode cX6_lay 12 = .ok (.iconst 0, 1) := by decide +kernel
theorem dX6_lay_13 : decode cX6_lay 13 = .ok (.istore 4, 2) := by decide +kernel
theorem dX6_lay_15 : decode cX6_lay 15 = .ok (.iload 4, 2) := by decide +kernel
theorem dX6_lay_17 : decode cX6_lay 17 = .ok (.aload_n 0, 1) := by decide +kernel
theorem dX6_lay_18 : decode cX6_lay 18 = .ok (.getfield 10, 3) := by decide +kernel
theorem dX6_lay_21 : decode cX6_lay 21 = .ok (.getfield 64, 3) := by decide +kernel
theorem dX6_lay_24 : decode cX6_lay 24 = .ok (.if_icmp .ge 51, 3) := by decide +kernel
theorem dX6_lay_27 : decode cX6_lay 27 = .ok (.aload_n 0, 1) := by decide +kernel
theorem dX6_lay_28 : decode cX6_lay 28 = .ok (.getfield 52, 3) := by decide +kernel
theorem dX6_lay_31 : decode cX6_lay 31 = .ok (.iload_n 1, 1) := by decide +kernel
theorem dX6_lay_32 : decode cX6_lay 32 = .ok (.iload_n 2, 1) := by decide +kernel
theorem dX6_lay_33 : decode cX6_lay 33 = .ok (.iload 4, 2) := by decide +kernel
theorem dX6_lay_35 : decode cX6_lay 35 = .ok (.iadd, 1) := by decide +kernel
theorem dX6_lay_36 : decode cX6_lay 36 = .ok (.invokevirtual 277, 3) := by decide +kernel
theorem dX6_lay_39 : decode cX6_lay 39 = .ok (.ifCond .ne 6, 3) := by decide +kernel
theorem dX6_lay_42 : decode cX6_lay 42 = .ok (.bipush (-13), 2) := by decide +kernel
theorem dX6_lay_44 : decode cX6_lay 44 = .ok (.ireturn, 1) := by decide +kernel
theorem dX6_lay_45 : decode cX6_lay 45 = .ok (.aload_n 0, 1) := by decide +kernel
theorem dX6_lay_46 : decode cX6_lay 46 = .ok (.getfield 52, 3) := by decide +kernel
theorem dX6_lay_49 : decode cX6_lay 49 = .ok (.iload_n 1, 1) := by decide +kernel
theorem dX6_lay_50 : decode cX6_lay 50 = .ok (.iload_n 2, 1) := by decide +kernel
theorem dX6_lay_51 : decode cX6_lay 51 = .ok (.iload 4, 2) := by decide +kernel
theorem dX6_lay_53 : decode cX6_lay 53 = .ok (.iadd, 1) := by decide +kernel
theorem dX6_lay_54 : decode cX6_lay 54 = .ok (.aload_n 0, 1) := by decide +kernel
theorem dX6_lay_55 : decode cX6_lay 55 = .ok (.getfield 24, 3) := by decide +kernel
theorem dX6_lay_58 : decode cX6_lay 58 = .ok (.getfield 126, 3) := by decide +kernel
theorem dX6_lay_61 : decode cX6_lay 61 = .ok (.iload 4, 2) := by decide +kernel
theorem dX6_lay_63 : decode cX6_lay 63 = .ok (.invokevirtual 86, 3) := by decide +kernel
theorem dX6_lay_66 : decode cX6_lay 66 = .ok (.invokevirtual 280, 3) := by decide +kernel
theorem dX6_lay_69 : decode cX6_lay 69 = .ok (.iinc 4 1, 3) := by decide +kernel
theorem dX6_lay_72 : decode cX6_lay 72 = .ok (.goto (-57), 3) := by decide +kernel
theorem dX6_lay_75 : decode cX6_lay 75 = .ok (.aload_n 0, 1) := by decide +kernel
theorem dX6_lay_76 : decode cX6_lay 76 = .ok (.getfield 10, 3) := by decide +kernel
theorem dX6_lay_79 : decode cX6_lay 79 = .ok (.getfield 64, 3) := by decide +kernel
theorem dX6_lay_82 : decode cX6_lay 82 = .ok (.ireturn, 1) := by decide +kernel
theorem dX6_judge_0 : decode cX6_judge 0 = .ok (.aload_n 0, 1) := by decide +kernel
theorem dX6_judge_1 : decode cX6_judge 1 = .ok (.iload_n 1, 1) := by decide +kernel
theorem dX6_judge_2 : decode cX6_judge 2 = .ok (.invokevirtual 274, 3) := by decide +kernel
theorem dX6_judge_5 : decode cX6_judge 5 = .ok (.istore_n 3, 1) := by decide +kernel
theorem dX6_judge_6 : decode cX6_judge 6 = .ok (.iload_n 3, 1) := by decide +kernel
theorem dX6_judge_7 : decode cX6_judge 7 = .ok (.ifCond .eq 5, 3) := by decide +kernel
theorem dX6_judge_10 : decode cX6_judge 10 = .ok (.iload_n 3, 1) := by decide +kernel
theorem dX6_judge_11 : decode cX6_judge 11 = .ok (.ireturn, 1) := by decide +kernel
theorem dX6_judge_12 : decode cX6_judge 12 = .ok (.iconst 0, 1) := by decide +kernel
theorem dX6_judge_13 : decode cX6_judge 13 = .ok (.istore 4, 2) := by decide +kernel
theorem dX6_judge_15 : decode cX6_judge 15 = .ok (.iload 4, 2) := by decide +kernel
theorem dX6_judge_17 : decode cX6_judge 17 = .ok (.aload_n 0, 1) := by decide +kernel
theorem dX6_judge_18 : decode cX6_judge 18 = .ok (.getfield 10, 3) := by decide +kernel
theorem dX6_judge_21 : decode cX6_judge 21 = .ok (.getfield 64, 3) := by decide +kernel
theorem dX6_judge_24 : decode cX6_judge 24 = .ok (.if_icmp .ge 60, 3) := by decide +kernel
theorem dX6_judge_27 : decode cX6_judge 27 = .ok (.aload_n 0, 1) := by decide +kernel
theorem dX6_judge_28 : decode cX6_judge 28 = .ok (.getfield 52, 3) := by decide +kernel
theorem dX6_judge_31 : decode cX6_judge 31 = .ok (.iload_n 1, 1) := by decide +kernel
theorem dX6_judge_32 : decode cX6_judge 32 = .ok (.iload_n 2, 1) := by decide +kernel
theorem dX6_judge_33 : decode cX6_judge 33 = .ok (.iload 4, 2) := by decide +kernel
theorem dX6_judge_35 : decode cX6_judge 35 = .ok (.iadd, 1) := by decide +kernel
theorem dX6_judge_36 : decode cX6_judge 36 = .ok (.invokevirtual 277, 3) := by decide +kernel
theorem dX6_judge_39 : decode cX6_judge 39 = .ok (.ifCond .ne 9, 3) := by decide +kernel
theorem dX6_judge_42 : decode cX6_judge 42 = .ok (.bipush 100, 2) := by decide +kernel
theorem dX6_judge_44 : decode cX6_judge 44 = .ok (.iload 4, 2) := by decide +kernel
theorem dX6_judge_46 : decode cX6_judge 46 = .ok (.iadd, 1) := by decide +kernel
theorem dX6_judge_47 : decode cX6_judge 47 = .ok (.ireturn, 1) := by decide +kernel
theorem dX6_judge_48 : decode cX6_judge 48 = .ok (.aload_n 0, 1) := by decide +kernel
theorem dX6_judge_49 : decode cX6_judge 49 = .ok (.getfield 52, 3) := by decide +kernel
theorem dX6_judge_52 : decode cX6_judge 52 = .ok (.iload_n 1, 1) := by decide +kernel
theorem dX6_judge_53 : decode cX6_judge 53 = .ok (.iload_n 2, 1) := by decide +kernel
theorem dX6_judge_54 : decode cX6_judge 54 = .ok (.iload 4, 2) := by decide +kernel
theorem dX6_judge_56 : decode cX6_judge 56 = .ok (.iadd, 1) := by decide +kernel
theorem dX6_judge_57 : decode cX6_judge 57 = .ok (.invokevirtual 285, 3) := by decide +kernel
theorem dX6_judge_60 : decode cX6_judge 60 = .ok (.aload_n 0, 1) := by decide +kernel
theorem dX6_judge_61 : decode cX6_judge 61 = .ok (.getfield 24, 3) := by decide +kernel
theorem dX6_judge_64 : decode cX6_judge 64 = .ok (.getfield 126, 3) := by decide +kernel
theorem dX6_judge_67 : decode cX6_judge 67 = .ok (.iload 4, 2) := by decide +kernel
theorem dX6_judge_69 : decode cX6_judge 69 = .ok (.invokevirtual 86, 3) := by decide +kernel
theorem dX6_judge_72 : decode cX6_judge 72 = .ok (.if_icmp .eq 6, 3) := by decide +kernel
theorem dX6_judge_75 : decode cX6_judge 75 = .ok (.iload 4, 2) := by decide +kernel
theorem dX6_judge_77 : decode cX6_judge 77 = .ok (.ireturn, 1) := by decide +kernel
theorem dX6_judge_78 : decode cX6_judge 78 = .ok (.iinc 4 1, 3) := by decide +kernel
theorem dX6_judge_81 : decode cX6_judge 81 = .ok (.goto (-66), 3) := by decide +kernel
theorem dX6_judge_84 : decode cX6_judge 84 = .ok (.bipush (-5), 2) := by decide +kernel
theorem dX6_judge_86 : decode cX6_judge 86 = .ok (.ireturn, 1) := by decide +kernel
theorem dX6_refusalOfList_0 : decode cX6_refusalOfList 0 = .ok (.iload_n 1, 1) := by decide +kernel
theorem dX6_refusalOfList_1 : decode cX6_refusalOfList 1 = .ok (.invokestatic 268, 3) := by decide +kernel
theorem dX6_refusalOfList_4 : decode cX6_refusalOfList 4 = .ok (.ifCond .ne 5, 3) := by decide +kernel
theorem dX6_refusalOfList_7 : decode cX6_refusalOfList 7 = .ok (.iconst (-1), 1) := by decide +kernel
theorem dX6_refusalOfList_8 : decode cX6_refusalOfList 8 = .ok (.ireturn, 1) := by decide +kernel
theorem dX6_refusalOfList_9 : decode cX6_refusalOfList 9 = .ok (.aload_n 0, 1) := by decide +kernel
theorem dX6_refusalOfList_10 : decode cX6_refusalOfList 10 = .ok (.getfield 52, 3) := by decide +kernel
theorem dX6_refusalOfList_13 : decode cX6_refusalOfList 13 = .ok (.iload_n 1, 1) := by decide +kernel
theorem dX6_refusalOfList_14 : decode cX6_refusalOfList 14 = .ok (.invokevirtual 288, 3) := by decide +kernel
theorem dX6_refusalOfList_17 : decode cX6_refusalOfList 17 = .ok (.ifCond .eq 7, 3) := by decide +kernel
theorem dX6_refusalOfList_20 : decode cX6_refusalOfList 20 = .ok (.iconst 0, 1) := by decide +kernel
theorem dX6_refusalOfList_21 : decode cX6_refusalOfList 21 = .ok (.goto 5, 3) := by decide +kernel
theorem dX6_refusalOfList_24 : decode cX6_refusalOfList 24 = .ok (.bipush (-11), 2) := by decide +kernel
theorem dX6_refusalOfList_26 : decode cX6_refusalOfList 26 = .ok (.ireturn, 1) := by decide +kernel
theorem dX6_image_0 : decode cX6_image 0 = .ok (.aload_n 0, 1) := by decide +kernel
theorem dX6_image_1 : decode cX6_image 1 = .ok (.getfield 16, 3) := by decide +kernel
theorem dX6_image_4 : decode cX6_image 4 = .ok (.aload_n 0, 1) := by decide +kernel
theorem dX6_image_5 : decode cX6_image 5 = .ok (.getfield 10, 3) := by decide +kernel
theorem dX6_image_8 : decode cX6_image 8 = .ok (.invokevirtual 291, 3) := by decide +kernel
theorem dX6_image_11 : decode cX6_image 11 = .ok (.aload_n 0, 1) := by decide +kernel
theorem dX6_image_12 : decode cX6_image 12 = .ok (.iconst 1, 1) := by decide +kernel
theorem dX6_image_13 : decode cX6_image 13 = .ok (.putfield 294, 3) := by decide +kernel
theorem dX6_image_16 : decode cX6_image 16 = .ok (.aload_n 0, 1) := by decide +kernel
theorem dX6_image_17 : decode cX6_image 17 = .ok (.getfield 10, 3) := by decide +kernel
theorem dX6_image_20 : decode cX6_image 20 = .ok (.getfield 148, 3) := by decide +kernel
theorem dX6_image_23 : decode cX6_image 23 = .ok (.ireturn, 1) := by decide +kernel
theorem dX6_undo_0 : decode cX6_undo 0 = .ok (.aload_n 0, 1) := by decide +kernel
theorem dX6_undo_1 : decode cX6_undo 1 = .ok (.getfield 294, 3) := by decide +kernel
theorem dX6_undo_4 : decode cX6_undo 4 = .ok (.ifCond .ne 6, 3) := by decide +kernel
theorem dX6_undo_7 : decode cX6_undo 7 = .ok (.bipush (-3), 2) := by decide +kernel
theorem dX6_undo_9 : decode cX6_undo 9 = .ok (.ireturn, 1) := by decide +kernel
theorem dX6_undo_10 : decode cX6_undo 10 = .ok (.aload_n 0, 1) := by decide +kernel
theorem dX6_undo_11 : decode cX6_undo 11 = .ok (.getfield 10, 3) := by decide +kernel
theorem dX6_undo_14 : decode cX6_undo 14 = .ok (.aload_n 0, 1) := by decide +kernel
theorem dX6_undo_15 : decode cX6_undo 15 = .ok (.getfield 16, 3) := by decide +kernel
theorem dX6_undo_18 : decode cX6_undo 18 = .ok (.invokevirtual 291, 3) := by decide +kernel
theorem dX6_undo_21 : decode cX6_undo 21 = .ok (.aload_n 0, 1) := by decide +kernel
theorem dX6_undo_22 : decode cX6_undo 22 = .ok (.getfield 24, 3) := by decide +kernel
theorem dX6_undo_25 : decode cX6_undo 25 = .ok (.invokevirtual 72, 3) := by decide +kernel
theorem dX6_undo_28 : decode cX6_undo 28 = .ok (.aload_n 0, 1) := by decide +kernel
theorem dX6_undo_29 : decode cX6_undo 29 = .ok (.getfield 10, 3) := by decide +kernel
theorem dX6_undo_32 : decode cX6_undo 32 = .ok (.getfield 148, 3) := by decide +kernel
theorem dX6_undo_35 : decode cX6_undo 35 = .ok (.ireturn, 1) := by decide +kernel
theorem dX6_isRating_0 : decode cX6_isRating 0 = .ok (.iload_n 0, 1) := by decide +kernel
theorem dX6_isRating_1 : decode cX6_isRating 1 = .ok (.ifCond .lt 14, 3) := by decide +kernel
theorem dX6_isRating_4 : decode cX6_isRating 4 = .ok (.iload_n 0, 1) := by decide +kernel
theorem dX6_isRating_5 : decode cX6_isRating 5 = .ok (.sipush 3000, 3) := by decide +kernel
theorem dX6_isRating_8 : decode cX6_isRating 8 = .ok (.if_icmp .gt 7, 3) := by decide +kernel
theorem dX6_isRating_11 : decode cX6_isRating 11 = .ok (.iconst 1, 1) := by decide +kernel
theorem dX6_isRating_12 : decode cX6_isRating 12 = .ok (.goto 4, 3) := by decide +kernel
theorem dX6_isRating_15 : decode cX6_isRating 15 = .ok (.iconst 0, 1) := by decide +kernel
theorem dX6_isRating_16 : decode cX6_isRating 16 = .ok (.ireturn, 1) := by decide +kernel
theorem dX6_isPlayer_0 : decode cX6_isPlayer 0 = .ok (.iload_n 1, 1) := by decide +kernel
theorem dX6_isPlayer_1 : decode cX6_isPlayer 1 = .ok (.ifCond .lt 18, 3) := by decide +kernel
theorem dX6_isPlayer_4 : decode cX6_isPlayer 4 = .ok (.iload_n 1, 1) := by decide +kernel
theorem dX6_isPlayer_5 : decode cX6_isPlayer 5 = .ok (.aload_n 0, 1) := by decide +kernel
theorem dX6_isPlayer_6 : decode cX6_isPlayer 6 = .ok (.getfield 10, 3) := by decide +kernel
theorem dX6_isPlayer_9 : decode cX6_isPlayer 9 = .ok (.getfield 64, 3) := by decide +kernel
theorem dX6_isPlayer_12 : decode cX6_isPlayer 12 = .ok (.if_icmp .ge 7, 3) := by decide +kernel
theorem dX6_isPlayer_15 : decode cX6_isPlayer 15 = .ok (.iconst 1, 1) := by decide +kernel
theorem dX6_isPlayer_16 : decode cX6_isPlayer 16 = .ok (.goto 4, 3) := by decide +kernel
theorem dX6_isPlayer_19 : decode cX6_isPlayer 19 = .ok (.iconst 0, 1) := by decide +kernel
theorem dX6_isPlayer_20 : decode cX6_isPlayer 20 = .ok (.ireturn, 1) := by decide +kernel
theorem dX6_areTwo_0 : decode cX6_areTwo 0 = .ok (.aload_n 0, 1) := by decide +kernel
theorem dX6_areTwo_1 : decode cX6_areTwo 1 = .ok (.iload_n 1, 1) := by decide +kernel
theorem dX6_areTwo_2 : decode cX6_areTwo 2 = .ok (.invokevirtual 79, 3) := by decide +kernel
theorem dX6_areTwo_5 : decode cX6_areTwo 5 = .ok (.ifCond .eq 20, 3) := by decide +kernel
theorem dX6_areTwo_8 : decode cX6_areTwo 8 = .ok (.aload_n 0, 1) := by decide +kernel
theorem dX6_areTwo_9 : decode cX6_areTwo 9 = .ok (.iload_n 2, 1) := by decide +kernel
theorem dX6_areTwo_10 : decode cX6_areTwo 10 = .ok (.invokevirtual 79, 3) := by decide +kernel
theorem dX6_areTwo_13 : decode cX6_areTwo 13 = .ok (.ifCond .eq 12, 3) := by decide +kernel
theorem dX6_areTwo_16 : decode cX6_areTwo 16 = .ok (.iload_n 1, 1) := by decide +kernel
theorem dX6_areTwo_17 : decode cX6_areTwo 17 = .ok (.iload_n 2, 1) := by decide +kernel
theorem dX6_areTwo_18 : decode cX6_areTwo 18 = .ok (.if_icmp .eq 7, 3) := by decide +kernel
theorem dX6_areTwo_21 : decode cX6_areTwo 21 = .ok (.iconst 1, 1) := by decide +kernel
theorem dX6_areTwo_22 : decode cX6_areTwo 22 = .ok (.goto 4, 3) := by decide +kernel
theorem dX6_areTwo_25 : decode cX6_areTwo 25 = .ok (.iconst 0, 1) := by decide +kernel
theorem dX6_areTwo_26 : decode cX6_areTwo 26 = .ok (.ireturn, 1) := by decide +kernel
theorem dX6_isRound_0 : decode cX6_isRound 0 = .ok (.iload_n 1, 1) := by decide +kernel
theorem dX6_isRound_1 : decode cX6_isRound 1 = .ok (.ifCond .lt 18, 3) := by decide +kernel
theorem dX6_isRound_4 : decode cX6_isRound 4 = .ok (.iload_n 1, 1) := by decide +kernel
theorem dX6_isRound_5 : decode cX6_isRound 5 = .ok (.aload_n 0, 1) := by decide +kernel
theorem dX6_isRound_6 : decode cX6_isRound 6 = .ok (.getfield 10, 3) := by decide +kernel
theorem dX6_isRound_9 : decode cX6_isRound 9 = .ok (.getfield 148, 3) := by decide +kernel
theorem dX6_isRound_12 : decode cX6_isRound 12 = .ok (.if_icmp .ge 7, 3) := by decide +kernel
theorem dX6_isRound_15 : decode cX6_isRound 15 = .ok (.iconst 1, 1) := by decide +kernel
theorem dX6_isRound_16 : decode cX6_isRound 16 = .ok (.goto 4, 3) := by decide +kernel
theorem dX6_isRound_19 : decode cX6_isRound 19 = .ok (.iconst 0, 1) := by decide +kernel
theorem dX6_isRound_20 : decode cX6_isRound 20 = .ok (.ireturn, 1) := by decide +kernel
theorem dX6_mirrored_0 : decode cX6_mirrored 0 = .ok (.iload_n 0, 1) := by decide +kernel
theorem dX6_mirrored_1 : decode cX6_mirrored 1 = .ok (.tableswitch 43 1 5 #[35, 43, 37, 39, 41], 35) := by decide +kernel
theorem dX6_mirrored_36 : decode cX6_mirrored 36 = .ok (.iconst 3, 1) := by decide +kernel
theorem dX6_mirrored_37 : decode cX6_mirrored 37 = .ok (.ireturn, 1) := by decide +kernel
theorem dX6_mirrored_38 : decode cX6_mirrored 38 = .ok (.iconst 1, 1) := by decide +kernel
theorem dX6_mirrored_39 : decode cX6_mirrored 39 = .ok (.ireturn, 1) := by decide +kernel
theorem dX6_mirrored_40 : decode cX6_mirrored 40 = .ok (.iconst 5, 1) := by decide +kernel
theorem dX6_mirrored_41 : decode cX6_mirrored 41 = .ok (.ireturn, 1) := by decide +kernel
theorem dX6_mirrored_42 : decode cX6_mirrored 42 = .ok (.iconst 4, 1) := by decide +kernel
theorem dX6_mirrored_43 : decode cX6_mirrored 43 = .ok (.ireturn, 1) := by decide +kernel
theorem dX6_mirrored_44 : decode cX6_mirrored 44 = .ok (.iload_n 0, 1) := by decide +kernel
theorem dX6_mirrored_45 : decode cX6_mirrored 45 = .ok (.ireturn, 1) := by decide +kernel
theorem dX6_pointsFor_0 : decode cX6_pointsFor 0 = .ok (.iload_n 0, 1) := by decide +kernel
theorem dX6_pointsFor_1 : decode cX6_pointsFor 1 = .ok (.iconst 1, 1) := by decide +kernel
theorem dX6_pointsFor_2 : decode cX6_pointsFor 2 = .ok (.if_icmp .eq 8, 3) := by decide +kernel
theorem dX6_pointsFor_5 : decode cX6_pointsFor 5 = .ok (.iload_n 0, 1) := by decide +kernel
theorem dX6_pointsFor_6 : decode cX6_pointsFor 6 = .ok (.iconst 4, 1) := by decide +kernel
theorem dX6_pointsFor_7 : decode cX6_pointsFor 7 = .ok (.if_icmp .ne 5, 3) := by decide +kernel
theorem dX6_pointsFor_10 : decode cX6_pointsFor 10 = .ok (.iconst 2, 1) := by decide +kernel
theorem dX6_pointsFor_11 : decode cX6_pointsFor 11 = .ok (.ireturn, 1) := by decide +kernel
theorem dX6_pointsFor_12 : decode cX6_pointsFor 12 = .ok (.iload_n 0, 1) := by decide +kernel
theorem dX6_pointsFor_13 : decode cX6_pointsFor 13 = .ok (.iconst 2, 1) := by decide +kernel
theorem dX6_pointsFor_14 : decode cX6_pointsFor 14 = .ok (.if_icmp .ne 7, 3) := by decide +kernel
theorem dX6_pointsFor_17 : decode cX6_pointsFor 17 = .ok (.iconst 1, 1) := by decide +kernel
theorem dX6_pointsFor_18 : decode cX6_pointsFor 18 = .ok (.goto 4, 3) := by decide +kernel
theorem dX6_pointsFor_21 : decode cX6_pointsFor 21 = .ok (.iconst 0, 1) := by decide +kernel
theorem dX6_pointsFor_22 : decode cX6_pointsFor 22 = .ok (.ireturn, 1) := by decide +kernel
theorem dX6_isOverTheBoard_0 : decode cX6_isOverTheBoard 0 = .ok (.iload_n 0, 1) := by decide +kernel
theorem dX6_isOverTheBoard_1 : decode cX6_isOverTheBoard 1 = .ok (.iconst 1, 1) := by decide +kernel
theorem dX6_isOverTheBoard_2 : decode cX6_isOverTheBoard 2 = .ok (.if_icmp .lt 12, 3) := by decide +kernel
theorem dX6_isOverTheBoard_5 : decode cX6_isOverTheBoard 5 = .ok (.iload_n 0, 1) := by decide +kernel
theorem dX6_isOverTheBoard_6 : decode cX6_isOverTheBoard 6 = .ok (.iconst 3, 1) := by decide +kernel
theorem dX6_isOverTheBoard_7 : decode cX6_isOverTheBoard 7 = .ok (.if_icmp .gt 7, 3) := by decide +kernel
theorem dX6_isOverTheBoard_10 : decode cX6_isOverTheBoard 10 = .ok (.iconst 1, 1) := by decide +kernel
theorem dX6_isOverTheBoard_11 : decode cX6_isOverTheBoard 11 = .ok (.goto 4, 3) := by decide +kernel
theorem dX6_isOverTheBoard_14 : decode cX6_isOverTheBoard 14 = .ok (.iconst 0, 1) := by decide +kernel
theorem dX6_isOverTheBoard_15 : decode cX6_isOverTheBoard 15 = .ok (.ireturn, 1) := by decide +kernel
theorem dJ11_isValidCodePoint_9a6ad_0 : decode cJ11_isValidCodePoint_9a6ad 0 = .ok (.iload_n 0, 1) := by decide +kernel
theorem dJ11_isValidCodePoint_9a6ad_1 : decode cJ11_isValidCodePoint_9a6ad 1 = .ok (.bipush 16, 2) := by decide +kernel
theorem dJ11_isValidCodePoint_9a6ad_3 : decode cJ11_isValidCodePoint_9a6ad 3 = .ok (.iushr, 1) := by decide +kernel
theorem dJ11_isValidCodePoint_9a6ad_4 : decode cJ11_isValidCodePoint_9a6ad 4 = .ok (.istore_n 1, 1) := by decide +kernel
theorem dJ11_isValidCodePoint_9a6ad_5 : decode cJ11_isValidCodePoint_9a6ad 5 = .ok (.iload_n 1, 1) := by decide +kernel
theorem dJ11_isValidCodePoint_9a6ad_6 : decode cJ11_isValidCodePoint_9a6ad 6 = .ok (.bipush 17, 2) := by decide +kernel
theorem dJ11_isValidCodePoint_9a6ad_8 : decode cJ11_isValidCodePoint_9a6ad 8 = .ok (.if_icmp .ge 7, 3) := by decide +kernel
theorem dJ11_isValidCodePoint_9a6ad_11 : decode cJ11_isValidCodePoint_9a6ad 11 = .ok (.iconst 1, 1) := by decide +kernel
theorem dJ11_isValidCodePoint_9a6ad_12 : decode cJ11_isValidCodePoint_9a6ad 12 = .ok (.goto 4, 3) := by decide +kernel
theorem dJ11_isValidCodePoint_9a6ad_15 : decode cJ11_isValidCodePoint_9a6ad 15 = .ok (.iconst 0, 1) := by decide +kernel
theorem dJ11_isValidCodePoint_9a6ad_16 : decode cJ11_isValidCodePoint_9a6ad 16 = .ok (.ireturn, 1) := by decide +kernel
theorem dJ11_highSurrogate_5068e_0 : decode cJ11_highSurrogate_5068e 0 = .ok (.iload_n 0, 1) := by decide +kernel
theorem dJ11_highSurrogate_5068e_1 : decode cJ11_highSurrogate_5068e 1 = .ok (.bipush 10, 2) := by decide +kernel
theorem dJ11_highSurrogate_5068e_3 : decode cJ11_highSurrogate_5068e 3 = .ok (.iushr, 1) := by decide +kernel
theorem dJ11_highSurrogate_5068e_4 : decode cJ11_highSurrogate_5068e 4 = .ok (.ldc 110, 2) := by decide +kernel
theorem dJ11_highSurrogate_5068e_6 : decode cJ11_highSurrogate_5068e 6 = .ok (.iadd, 1) := by decide +kernel
theorem dJ11_highSurrogate_5068e_7 : decode cJ11_highSurrogate_5068e 7 = .ok (.i2c, 1) := by decide +kernel
theorem dJ11_highSurrogate_5068e_8 : decode cJ11_highSurrogate_5068e 8 = .ok (.ireturn, 1) := by decide +kernel
theorem dJ11_lowSurrogate_5068e_0 : decode cJ11_lowSurrogate_5068e 0 = .ok (.iload_n 0, 1) := by decide +kernel
theorem dJ11_lowSurrogate_5068e_1 : decode cJ11_lowSurrogate_5068e 1 = .ok (.sipush 1023, 3) := by decide +kernel
theorem dJ11_lowSurrogate_5068e_4 : decode cJ11_lowSurrogate_5068e 4 = .ok (.iand, 1) := by decide +kernel
theorem dJ11_lowSurrogate_5068e_5 : decode cJ11_lowSurrogate_5068e 5 = .ok (.ldc 76, 2) := by decide +kernel
theorem dJ11_lowSurrogate_5068e_7 : decode cJ11_lowSurrogate_5068e 7 = .ok (.iadd, 1) := by decide +kernel
theorem dJ11_lowSurrogate_5068e_8 : decode cJ11_lowSurrogate_5068e 8 = .ok (.i2c, 1) := by decide +kernel
theorem dJ11_lowSurrogate_5068e_9 : decode cJ11_lowSurrogate_5068e 9 = .ok (.ireturn, 1) := by decide +kernel
theorem dJ6_bitCount_0f7a4_0 : decode cJ6_bitCount_0f7a4 0 = .ok (.iload_n 0, 1) := by decide +kernel
theorem dJ6_bitCount_0f7a4_1 : decode cJ6_bitCount_0f7a4 1 = .ok (.iload_n 0, 1) := by decide +kernel
theorem dJ6_bitCount_0f7a4_2 : decode cJ6_bitCount_0f7a4 2 = .ok (.iconst 1, 1) := by decide +kernel
theorem dJ6_bitCount_0f7a4_3 : decode cJ6_bitCount_0f7a4 3 = .ok (.iushr, 1) := by decide +kernel
theorem dJ6_bitCount_0f7a4_4 : decode cJ6_bitCount_0f7a4 4 = .ok (.ldc_w 265, 3) := by decide +kernel
theorem dJ6_bitCount_0f7a4_7 : decode cJ6_bitCount_0f7a4 7 = .ok (.iand, 1) := by decide +kernel
theorem dJ6_bitCount_0f7a4_8 : decode cJ6_bitCount_0f7a4 8 = .ok (.isub, 1) := by decide +kernel
theorem dJ6_bitCount_0f7a4_9 : decode cJ6_bitCount_0f7a4 9 = .ok (.istore_n 0, 1) := by decide +kernel
theorem dJ6_bitCount_0f7a4_10 : decode cJ6_bitCount_0f7a4 10 = .ok (.iload_n 0, 1) := by decide +kernel
theorem dJ6_bitCount_0f7a4_11 : decode cJ6_bitCount_0f7a4 11 = .ok (.ldc_w 266, 3) := by decide +kernel
theorem dJ6_bitCount_0f7a4_14 : decode cJ6_bitCount_0f7a4 14 = .ok (.iand, 1) := by decide +kernel
theorem dJ6_bitCount_0f7a4_15 : decode cJ6_bitCount_0f7a4 15 = .ok (.iload_n 0, 1) := by decide +kernel
theorem dJ6_bitCount_0f7a4_16 : decode cJ6_bitCount_0f7a4 16 = .ok (.iconst 2, 1) := by decide +kernel
theorem dJ6_bitCount_0f7a4_17 : decode cJ6_bitCount_0f7a4 17 = .ok (.iushr, 1) := by decide +kernel
theorem dJ6_bitCount_0f7a4_18 : decode cJ6_bitCount_0f7a4 18 = .ok (.ldc_w 266, 3) := by decide +kernel
theorem dJ6_bitCount_0f7a4_21 : decode cJ6_bitCount_0f7a4 21 = .ok (.iand, 1) := by decide +kernel
theorem dJ6_bitCount_0f7a4_22 : decode cJ6_bitCount_0f7a4 22 = .ok (.iadd, 1) := by decide +kernel
theorem dJ6_bitCount_0f7a4_23 : decode cJ6_bitCount_0f7a4 23 = .ok (.istore_n 0, 1) := by decide +kernel
theorem dJ6_bitCount_0f7a4_24 : decode cJ6_bitCount_0f7a4 24 = .ok (.iload_n 0, 1) := by decide +kernel
theorem dJ6_bitCount_0f7a4_25 : decode cJ6_bitCount_0f7a4 25 = .ok (.iload_n 0, 1) := by decide +kernel
theorem dJ6_bitCount_0f7a4_26 : decode cJ6_bitCount_0f7a4 26 = .ok (.iconst 4, 1) := by decide +kernel
theorem dJ6_bitCount_0f7a4_27 : decode cJ6_bitCount_0f7a4 27 = .ok (.iushr, 1) := by decide +kernel
theorem dJ6_bitCount_0f7a4_28 : decode cJ6_bitCount_0f7a4 28 = .ok (.iadd, 1) := by decide +kernel
theorem dJ6_bitCount_0f7a4_29 : decode cJ6_bitCount_0f7a4 29 = .ok (.ldc_w 267, 3) := by decide +kernel
theorem dJ6_bitCount_0f7a4_32 : decode cJ6_bitCount_0f7a4 32 = .ok (.iand, 1) := by decide +kernel
theorem dJ6_bitCount_0f7a4_33 : decode cJ6_bitCount_0f7a4 33 = .ok (.istore_n 0, 1) := by decide +kernel
theorem dJ6_bitCount_0f7a4_34 : decode cJ6_bitCount_0f7a4 34 = .ok (.iload_n 0, 1) := by decide +kernel
theorem dJ6_bitCount_0f7a4_35 : decode cJ6_bitCount_0f7a4 35 = .ok (.iload_n 0, 1) := by decide +kernel
theorem dJ6_bitCount_0f7a4_36 : decode cJ6_bitCount_0f7a4 36 = .ok (.bipush 8, 2) := by decide +kernel
theorem dJ6_bitCount_0f7a4_38 : decode cJ6_bitCount_0f7a4 38 = .ok (.iushr, 1) := by decide +kernel
theorem dJ6_bitCount_0f7a4_39 : decode cJ6_bitCount_0f7a4 39 = .ok (.iadd, 1) := by decide +kernel
theorem dJ6_bitCount_0f7a4_40 : decode cJ6_bitCount_0f7a4 40 = .ok (.istore_n 0, 1) := by decide +kernel
theorem dJ6_bitCount_0f7a4_41 : decode cJ6_bitCount_0f7a4 41 = .ok (.iload_n 0, 1) := by decide +kernel
theorem dJ6_bitCount_0f7a4_42 : decode cJ6_bitCount_0f7a4 42 = .ok (.iload_n 0, 1) := by decide +kernel
theorem dJ6_bitCount_0f7a4_43 : decode cJ6_bitCount_0f7a4 43 = .ok (.bipush 16, 2) := by decide +kernel
theorem dJ6_bitCount_0f7a4_45 : decode cJ6_bitCount_0f7a4 45 = .ok (.iushr, 1) := by decide +kernel
theorem dJ6_bitCount_0f7a4_46 : decode cJ6_bitCount_0f7a4 46 = .ok (.iadd, 1) := by decide +kernel
theorem dJ6_bitCount_0f7a4_47 : decode cJ6_bitCount_0f7a4 47 = .ok (.istore_n 0, 1) := by decide +kernel
theorem dJ6_bitCount_0f7a4_48 : decode cJ6_bitCount_0f7a4 48 = .ok (.iload_n 0, 1) := by decide +kernel
theorem dJ6_bitCount_0f7a4_49 : decode cJ6_bitCount_0f7a4 49 = .ok (.bipush 63, 2) := by decide +kernel
theorem dJ6_bitCount_0f7a4_51 : decode cJ6_bitCount_0f7a4 51 = .ok (.iand, 1) := by decide +kernel
theorem dJ6_bitCount_0f7a4_52 : decode cJ6_bitCount_0f7a4 52 = .ok (.ireturn, 1) := by decide +kernel
theorem dJ9_abs_0f7a4_0 : decode cJ9_abs_0f7a4 0 = .ok (.iload_n 0, 1) := by decide +kernel
theorem dJ9_abs_0f7a4_1 : decode cJ9_abs_0f7a4 1 = .ok (.ifCond .ge 8, 3) := by decide +kernel
theorem dJ9_abs_0f7a4_4 : decode cJ9_abs_0f7a4 4 = .ok (.iload_n 0, 1) := by decide +kernel
theorem dJ9_abs_0f7a4_5 : decode cJ9_abs_0f7a4 5 = .ok (.ineg, 1) := by decide +kernel
theorem dJ9_abs_0f7a4_6 : decode cJ9_abs_0f7a4 6 = .ok (.goto 4, 3) := by decide +kernel
theorem dJ9_abs_0f7a4_9 : decode cJ9_abs_0f7a4 9 = .ok (.iload_n 0, 1) := by decide +kernel
theorem dJ9_abs_0f7a4_10 : decode cJ9_abs_0f7a4 10 = .ok (.ireturn, 1) := by decide +kernel
theorem dJ9_max_7cf53_0 : decode cJ9_max_7cf53 0 = .ok (.iload_n 0, 1) := by decide +kernel
theorem dJ9_max_7cf53_1 : decode cJ9_max_7cf53 1 = .ok (.iload_n 1, 1) := by decide +kernel
theorem dJ9_max_7cf53_2 : decode cJ9_max_7cf53 2 = .ok (.if_icmp .lt 7, 3) := by decide +kernel
theorem dJ9_max_7cf53_5 : decode cJ9_max_7cf53 5 = .ok (.iload_n 0, 1) := by decide +kernel
theorem dJ9_max_7cf53_6 : decode cJ9_max_7cf53 6 = .ok (.goto 4, 3) := by decide +kernel
theorem dJ9_max_7cf53_9 : decode cJ9_max_7cf53 9 = .ok (.iload_n 1, 1) := by decide +kernel
theorem dJ9_max_7cf53_10 : decode cJ9_max_7cf53 10 = .ok (.ireturn, 1) := by decide +kernel
theorem dJ9_min_7cf53_0 : decode cJ9_min_7cf53 0 = .ok (.iload_n 0, 1) := by decide +kernel
theorem dJ9_min_7cf53_1 : decode cJ9_min_7cf53 1 = .ok (.iload_n 1, 1) := by decide +kernel
theorem dJ9_min_7cf53_2 : decode cJ9_min_7cf53 2 = .ok (.if_icmp .gt 7, 3) := by decide +kernel
theorem dJ9_min_7cf53_5 : decode cJ9_min_7cf53 5 = .ok (.iload_n 0, 1) := by decide +kernel
theorem dJ9_min_7cf53_6 : decode cJ9_min_7cf53 6 = .ok (.goto 4, 3) := by decide +kernel
theorem dJ9_min_7cf53_9 : decode cJ9_min_7cf53 9 = .ok (.iload_n 1, 1) := by decide +kernel
theorem dJ9_min_7cf53_10 : decode cJ9_min_7cf53 10 = .ok (.ireturn, 1) := by decide +kernel
theorem dJ0_length_8abf5_0 : decode cJ0_length_8abf5 0 = .ok (.aload_n 0, 1) := by decide +kernel
theorem dJ0_length_8abf5_1 : decode cJ0_length_8abf5 1 = .ok (.getfield 9, 3) := by decide +kernel
theorem dJ0_length_8abf5_4 : decode cJ0_length_8abf5 4 = .ok (.arraylength, 1) := by decide +kernel
theorem dJ0_length_8abf5_5 : decode cJ0_length_8abf5 5 = .ok (.aload_n 0, 1) := by decide +kernel
theorem dJ0_length_8abf5_6 : decode cJ0_length_8abf5 6 = .ok (.invokevirtual 335, 3) := by decide +kernel
theorem dJ0_length_8abf5_9 : decode cJ0_length_8abf5 9 = .ok (.ishr, 1) := by decide +kernel
theorem dJ0_length_8abf5_10 : decode cJ0_length_8abf5 10 = .ok (.ireturn, 1) := by decide +kernel
theorem dJ0_indexOf_0f7a4_0 : decode cJ0_indexOf_0f7a4 0 = .ok (.aload_n 0, 1) := by decide +kernel
theorem dJ0_indexOf_0f7a4_1 : decode cJ0_indexOf_0f7a4 1 = .ok (.iload_n 1, 1) := by decide +kernel
theorem dJ0_indexOf_0f7a4_2 : decode cJ0_indexOf_0f7a4 2 = .ok (.iconst 0, 1) := by decide +kernel
theorem dJ0_indexOf_0f7a4_3 : decode cJ0_indexOf_0f7a4 3 = .ok (.invokevirtual 633, 3) := by decide +kernel
theorem dJ0_indexOf_0f7a4_6 : decode cJ0_indexOf_0f7a4 6 = .ok (.ireturn, 1) := by decide +kernel
theorem dJ0_indexOf_7cf53_0 : decode cJ0_indexOf_7cf53 0 = .ok (.aload_n 0, 1) := by decide +kernel
theorem dJ0_indexOf_7cf53_1 : decode cJ0_indexOf_7cf53 1 = .ok (.invokevirtual 492, 3) := by decide +kernel
theorem dJ0_indexOf_7cf53_4 : decode cJ0_indexOf_7cf53 4 = .ok (.ifCond .eq 19, 3) := by decide +kernel
theorem dJ0_indexOf_7cf53_7 : decode cJ0_indexOf_7cf53 7 = .ok (.aload_n 0, 1) := by decide +kernel
theorem dJ0_indexOf_7cf53_8 : decode cJ0_indexOf_7cf53 8 = .ok (.getfield 9, 3) := by decide +kernel
theorem dJ0_indexOf_7cf53_11 : decode cJ0_indexOf_7cf53 11 = .ok (.iload_n 1, 1) := by decide +kernel
theorem dJ0_indexOf_7cf53_12 : decode cJ0_indexOf_7cf53 12 = .ok (.iload_n 2, 1) := by decide +kernel
theorem dJ0_indexOf_7cf53_13 : decode cJ0_indexOf_7cf53 13 = .ok (.aload_n 0, 1) := by decide +kernel
theorem dJ0_indexOf_7cf53_14 : decode cJ0_indexOf_7cf53 14 = .ok (.invokevirtual 505, 3) := by decide +kernel
theorem dJ0_indexOf_7cf53_17 : decode cJ0_indexOf_7cf53 17 = .ok (.invokestatic 637, 3) := by decide +kernel
theorem dJ0_indexOf_7cf53_20 : decode cJ0_indexOf_7cf53 20 = .ok (.goto 16, 3) := by decide +kernel
theorem dJ0_indexOf_7cf53_23 : decode cJ0_indexOf_7cf53 23 = .ok (.aload_n 0, 1) := by decide +kernel
theorem dJ0_indexOf_7cf53_24 : decode cJ0_indexOf_7cf53 24 = .ok (.getfield 9, 3) := by decide +kernel
theorem dJ0_indexOf_7cf53_27 : decode cJ0_indexOf_7cf53 27 = .ok (.iload_n 1, 1) := by decide +kernel
theorem dJ0_indexOf_7cf53_28 : decode cJ0_indexOf_7cf53 28 = .ok (.iload_n 2, 1) := by decide +kernel
theorem dJ0_indexOf_7cf53_29 : decode cJ0_indexOf_7cf53 29 = .ok (.aload_n 0, 1) := by decide +kernel
theorem dJ0_indexOf_7cf53_30 : decode cJ0_indexOf_7cf53 30 = .ok (.invokevirtual 505, 3) := by decide +kernel
theorem dJ0_indexOf_7cf53_33 : decode cJ0_indexOf_7cf53 33 = .ok (.invokestatic 640, 3) := by decide +kernel
theorem dJ0_indexOf_7cf53_36 : decode cJ0_indexOf_7cf53 36 = .ok (.ireturn, 1) := by decide +kernel
theorem dJ0_coder_7d493_0 : decode cJ0_coder_7d493 0 = .ok (.getstatic 38, 3) := by decide +kernel
theorem dJ0_coder_7d493_3 : decode cJ0_coder_7d493 3 = .ok (.ifCond .eq 10, 3) := by decide +kernel
theorem dJ0_coder_7d493_6 : decode cJ0_coder_7d493 6 = .ok (.aload_n 0, 1) := by decide +kernel
theorem dJ0_coder_7d493_7 : decode cJ0_coder_7d493 7 = .ok (.getfield 15, 3) := by decide +kernel
theorem dJ0_coder_7d493_10 : decode cJ0_coder_7d493 10 = .ok (.goto 4, 3) := by decide +kernel
theorem dJ0_coder_7d493_13 : decode cJ0_coder_7d493 13 = .ok (.iconst 1, 1) := by decide +kernel
theorem dJ0_coder_7d493_14 : decode cJ0_coder_7d493 14 = .ok (.ireturn, 1) := by decide +kernel
theorem dJ0_isLatin1_aae02_0 : decode cJ0_isLatin1_aae02 0 = .ok (.getstatic 38, 3) := by decide +kernel
theorem dJ0_isLatin1_aae02_3 : decode cJ0_isLatin1_aae02 3 = .ok (.ifCond .eq 14, 3) := by decide +kernel
theorem dJ0_isLatin1_aae02_6 : decode cJ0_isLatin1_aae02 6 = .ok (.aload_n 0, 1) := by decide +kernel
theorem dJ0_isLatin1_aae02_7 : decode cJ0_isLatin1_aae02 7 = .ok (.getfield 15, 3) := by decide +kernel
theorem dJ0_isLatin1_aae02_10 : decode cJ0_isLatin1_aae02 10 = .ok (.ifCond .ne 7, 3) := by decide +kernel
theorem dJ0_isLatin1_aae02_13 : decode cJ0_isLatin1_aae02 13 = .ok (.iconst 1, 1) := by decide +kernel
theorem dJ0_isLatin1_aae02_14 : decode cJ0_isLatin1_aae02 14 = .ok (.goto 4, 3) := by decide +kernel
theorem dJ0_isLatin1_aae02_17 : decode cJ0_isLatin1_aae02 17 = .ok (.iconst 0, 1) := by decide +kernel
theorem dJ0_isLatin1_aae02_18 : decode cJ0_isLatin1_aae02 18 = .ok (.ireturn, 1) := by decide +kernel
theorem dJ0_checkBoundsBeginEnd_23922_0 : decode cJ0_checkBoundsBeginEnd_23922 0 = .ok (.iload_n 0, 1) := by decide +kernel
theorem dJ0_checkBoundsBeginEnd_23922_1 : decode cJ0_checkBoundsBeginEnd_23922 1 = .ok (.iload_n 1, 1) := by decide +kernel
theorem dJ0_checkBoundsBeginEnd_23922_2 : decode cJ0_checkBoundsBeginEnd_23922 2 = .ok (.iload_n 2, 1) := by decide +kernel
theorem dJ0_checkBoundsBeginEnd_23922_3 : decode cJ0_checkBoundsBeginEnd_23922 3 = .ok (.getstatic 1053, 3) := by decide +kernel
theorem dJ0_checkBoundsBeginEnd_23922_6 : decode cJ0_checkBoundsBeginEnd_23922 6 = .ok (.invokestatic 1062, 3) := by decide +kernel
theorem dJ0_checkBoundsBeginEnd_23922_9 : decode cJ0_checkBoundsBeginEnd_23922 9 = .ok (.pop, 1) := by decide +kernel
theorem dJ0_checkBoundsBeginEnd_23922_10 : decode cJ0_checkBoundsBeginEnd_23922 10 = .ok (.return_, 1) := by decide +kernel
theorem dJ1_canEncode_9a6ad_0 : decode cJ1_canEncode_9a6ad 0 = .ok (.iload_n 0, 1) := by decide +kernel
theorem dJ1_canEncode_9a6ad_1 : decode cJ1_canEncode_9a6ad 1 = .ok (.ifCond .lt 14, 3) := by decide +kernel
theorem dJ1_canEncode_9a6ad_4 : decode cJ1_canEncode_9a6ad 4 = .ok (.iload_n 0, 1) := by decide +kernel
theorem dJ1_canEncode_9a6ad_5 : decode cJ1_canEncode_9a6ad 5 = .ok (.sipush 255, 3) := by decide +kernel
theorem dJ1_canEncode_9a6ad_8 : decode cJ1_canEncode_9a6ad 8 = .ok (.if_icmp .gt 7, 3) := by decide +kernel
theorem dJ1_canEncode_9a6ad_11 : decode cJ1_canEncode_9a6ad 11 = .ok (.iconst 1, 1) := by decide +kernel
theorem dJ1_canEncode_9a6ad_12 : decode cJ1_canEncode_9a6ad 12 = .ok (.goto 4, 3) := by decide +kernel
theorem dJ1_canEncode_9a6ad_15 : decode cJ1_canEncode_9a6ad 15 = .ok (.iconst 0, 1) := by decide +kernel
theorem dJ1_canEncode_9a6ad_16 : decode cJ1_canEncode_9a6ad 16 = .ok (.ireturn, 1) := by decide +kernel
theorem dJ1_indexOf_4cfef_0 : decode cJ1_indexOf_4cfef 0 = .ok (.iload_n 1, 1) := by decide +kernel
theorem dJ1_indexOf_4cfef_1 : decode cJ1_indexOf_4cfef 1 = .ok (.invokestatic 88, 3) := by decide +kernel
theorem dJ1_indexOf_4cfef_4 : decode cJ1_indexOf_4cfef 4 = .ok (.ifCond .ne 5, 3) := by decide +kernel
theorem dJ1_indexOf_4cfef_7 : decode cJ1_indexOf_4cfef 7 = .ok (.iconst (-1), 1) := by decide +kernel
theorem dJ1_indexOf_4cfef_8 : decode cJ1_indexOf_4cfef 8 = .ok (.ireturn, 1) := by decide +kernel
theorem dJ1_indexOf_4cfef_9 : decode cJ1_indexOf_4cfef 9 = .ok (.iload_n 2, 1) := by decide +kernel
theorem dJ1_indexOf_4cfef_10 : decode cJ1_indexOf_4cfef 10 = .ok (.iconst 0, 1) := by decide +kernel
theorem dJ1_indexOf_4cfef_11 : decode cJ1_indexOf_4cfef 11 = .ok (.invokestatic 92, 3) := by decide +kernel
theorem dJ1_indexOf_4cfef_14 : decode cJ1_indexOf_4cfef 14 = .ok (.istore_n 2, 1) := by decide +kernel
theorem dJ1_indexOf_4cfef_15 : decode cJ1_indexOf_4cfef 15 = .ok (.iload_n 3, 1) := by decide +kernel
theorem dJ1_indexOf_4cfef_16 : decode cJ1_indexOf_4cfef 16 = .ok (.aload_n 0, 1) := by decide +kernel
theorem dJ1_indexOf_4cfef_17 : decode cJ1_indexOf_4cfef 17 = .ok (.arraylength, 1) := by decide +kernel
theorem dJ1_indexOf_4cfef_18 : decode cJ1_indexOf_4cfef 18 = .ok (.invokestatic 38, 3) := by decide +kernel
theorem dJ1_indexOf_4cfef_21 : decode cJ1_indexOf_4cfef 21 = .ok (.istore_n 3, 1) := by decide +kernel
theorem dJ1_indexOf_4cfef_22 : decode cJ1_indexOf_4cfef 22 = .ok (.iload_n 2, 1) := by decide +kernel
theorem dJ1_indexOf_4cfef_23 : decode cJ1_indexOf_4cfef 23 = .ok (.iload_n 3, 1) := by decide +kernel
theorem dJ1_indexOf_4cfef_24 : decode cJ1_indexOf_4cfef 24 = .ok (.if_icmp .lt 5, 3) := by decide +kernel
theorem dJ1_indexOf_4cfef_27 : decode cJ1_indexOf_4cfef 27 = .ok (.iconst (-1), 1) := by decide +kernel
theorem dJ1_indexOf_4cfef_28 : decode cJ1_indexOf_4cfef 28 = .ok (.ireturn, 1) := by decide +kernel
theorem dJ1_indexOf_4cfef_29 : decode cJ1_indexOf_4cfef 29 = .ok (.aload_n 0, 1) := by decide +kernel
theorem dJ1_indexOf_4cfef_30 : decode cJ1_indexOf_4cfef 30 = .ok (.iload_n 1, 1) := by decide +kernel
theorem dJ1_indexOf_4cfef_31 : decode cJ1_indexOf_4cfef 31 = .ok (.iload_n 2, 1) := by decide +kernel
theorem dJ1_indexOf_4cfef_32 : decode cJ1_indexOf_4cfef 32 = .ok (.iload_n 3, 1) := by decide +kernel
theorem dJ1_indexOf_4cfef_33 : decode cJ1_indexOf_4cfef 33 = .ok (.invokestatic 95, 3) := by decide +kernel
theorem dJ1_indexOf_4cfef_36 : decode cJ1_indexOf_4cfef 36 = .ok (.ireturn, 1) := by decide +kernel
theorem dJ1_indexOfChar_4cfef_0 : decode cJ1_indexOfChar_4cfef 0 = .ok (.iload_n 1, 1) := by decide +kernel
theorem dJ1_indexOfChar_4cfef_1 : decode cJ1_indexOfChar_4cfef 1 = .ok (.i2b, 1) := by decide +kernel
theorem dJ1_indexOfChar_4cfef_2 : decode cJ1_indexOfChar_4cfef 2 = .ok (.istore 4, 2) := by decide +kernel
theorem dJ1_indexOfChar_4cfef_4 : decode cJ1_indexOfChar_4cfef 4 = .ok (.iload_n 2, 1) := by decide +kernel
theorem dJ1_indexOfChar_4cfef_5 : decode cJ1_indexOfChar_4cfef 5 = .ok (.istore 5, 2) := by decide +kernel
theorem dJ1_indexOfChar_4cfef_7 : decode cJ1_indexOfChar_4cfef 7 = .ok (.iload 5, 2) := by decide +kernel
theorem dJ1_indexOfChar_4cfef_9 : decode cJ1_indexOfChar_4cfef 9 = .ok (.iload_n 3, 1) := by decide +kernel
theorem dJ1_indexOfChar_4cfef_10 : decode cJ1_indexOfChar_4cfef 10 = .ok (.if_icmp .ge 21, 3) := by decide +kernel
theorem dJ1_indexOfChar_4cfef_13 : decode cJ1_indexOfChar_4cfef 13 = .ok (.aload_n 0, 1) := by decide +kernel
theorem dJ1_indexOfChar_4cfef_14 : decode cJ1_indexOfChar_4cfef 14 = .ok (.iload 5, 2) := by decide +kernel
theorem dJ1_indexOfChar_4cfef_16 : decode cJ1_indexOfChar_4cfef 16 = .ok (.baload, 1) := by decide +kernel
theorem dJ1_indexOfChar_4cfef_17 : decode cJ1_indexOfChar_4cfef 17 = .ok (.iload 4, 2) := by decide +kernel
theorem dJ1_indexOfChar_4cfef_19 : decode cJ1_indexOfChar_4cfef 19 = .ok (.if_icmp .ne 6, 3) := by decide +kernel
theorem dJ1_indexOfChar_4cfef_22 : decode cJ1_indexOfChar_4cfef 22 = .ok (.iload 5, 2) := by decide +kernel
theorem dJ1_indexOfChar_4cfef_24 : decode cJ1_indexOfChar_4cfef 24 = .ok (.ireturn, 1) := by decide +kernel
theorem dJ1_indexOfChar_4cfef_25 : decode cJ1_indexOfChar_4cfef 25 = .ok (.iinc 5 1, 3) := by decide +kernel
theorem dJ1_indexOfChar_4cfef_28 : decode cJ1_indexOfChar_4cfef 28 = .ok (.goto (-21), 3) := by decide +kernel
theorem dJ1_indexOfChar_4cfef_31 : decode cJ1_indexOfChar_4cfef 31 = .ok (.iconst (-1), 1) := by decide +kernel
theorem dJ1_indexOfChar_4cfef_32 : decode cJ1_indexOfChar_4cfef 32 = .ok (.ireturn, 1) := by decide +kernel
theorem dJ2_getChar_3b067_0 : decode cJ2_getChar_3b067 0 = .ok (.getstatic 44, 3) := by decide +kernel
theorem dJ2_getChar_3b067_3 : decode cJ2_getChar_3b067 3 = .ok (.ifCond .ne 25, 3) := by decide +kernel
theorem dJ2_getChar_3b067_6 : decode cJ2_getChar_3b067 6 = .ok (.iload_n 1, 1) := by decide +kernel
theorem dJ2_getChar_3b067_7 : decode cJ2_getChar_3b067 7 = .ok (.ifCond .lt 11, 3) := by decide +kernel
theorem dJ2_getChar_3b067_10 : decode cJ2_getChar_3b067 10 = .ok (.iload_n 1, 1) := by decide +kernel
theorem dJ2_getChar_3b067_11 : decode cJ2_getChar_3b067 11 = .ok (.aload_n 0, 1) := by decide +kernel
theorem dJ2_getChar_3b067_12 : decode cJ2_getChar_3b067 12 = .ok (.invokestatic 48, 3) := by decide +kernel
theorem dJ2_getChar_3b067_15 : decode cJ2_getChar_3b067 15 = .ok (.if_icmp .lt 13, 3) := by decide +kernel
theorem dJ2_getChar_3b067_18 : decode cJ2_getChar_3b067 18 = .ok (.new 52, 3) := by decide +kernel
theorem dJ2_getChar_3b067_21 : decode cJ2_getChar_3b067 21 = .ok (.dup, 1) := by decide +kernel
theorem dJ2_getChar_3b067_22 : decode cJ2_getChar_3b067 22 = .ok (.ldc 54, 2) := by decide +kernel
theorem dJ2_getChar_3b067_24 : decode cJ2_getChar_3b067 24 = .ok (.invokespecial 56, 3) := by decide +kernel
theorem dJ2_getChar_3b067_27 : decode cJ2_getChar_3b067 27 = .ok (.athrow, 1) := by decide +kernel
theorem dJ2_getChar_3b067_28 : decode cJ2_getChar_3b067 28 = .ok (.iload_n 1, 1) := by decide +kernel
theorem dJ2_getChar_3b067_29 : decode cJ2_getChar_3b067 29 = .ok (.iconst 1, 1) := by decide +kernel
theorem dJ2_getChar_3b067_30 : decode cJ2_getChar_3b067 30 = .ok (.ishl, 1) := by decide +kernel
theorem dJ2_getChar_3b067_31 : decode cJ2_getChar_3b067 31 = .ok (.istore_n 1, 1) := by decide +kernel
theorem dJ2_getChar_3b067_32 : decode cJ2_getChar_3b067 32 = .ok (.aload_n 0, 1) := by decide +kernel
theorem dJ2_getChar_3b067_33 : decode cJ2_getChar_3b067 33 = .ok (.iload_n 1, 1) := by decide +kernel
theorem dJ2_getChar_3b067_34 : decode cJ2_getChar_3b067 34 = .ok (.iinc 1 1, 3) := by decide +kernel
theorem dJ2_getChar_3b067_37 : decode cJ2_getChar_3b067 37 = .ok (.baload, 1) := by decide +kernel
theorem dJ2_getChar_3b067_38 : decode cJ2_getChar_3b067 38 = .ok (.sipush 255, 3) := by decide +kernel
theorem dJ2_getChar_3b067_41 : decode cJ2_getChar_3b067 41 = .ok (.iand, 1) := by decide +kernel
theorem dJ2_getChar_3b067_42 : decode cJ2_getChar_3b067 42 = .ok (.getstatic 59, 3) := by decide +kernel
theorem dJ2_getChar_3b067_45 : decode cJ2_getChar_3b067 45 = .ok (.ishl, 1) := by decide +kernel
theorem dJ2_getChar_3b067_46 : decode cJ2_getChar_3b067 46 = .ok (.aload_n 0, 1) := by decide +kernel
theorem dJ2_getChar_3b067_47 : decode cJ2_getChar_3b067 47 = .ok (.iload_n 1, 1) := by decide +kernel
theorem dJ2_getChar_3b067_48 : decode cJ2_getChar_3b067 48 = .ok (.baload, 1) := by decide +kernel
theorem dJ2_getChar_3b067_49 : decode cJ2_getChar_3b067 49 = .ok (.sipush 255, 3) := by decide +kernel
theorem dJ2_getChar_3b067_52 : decode cJ2_getChar_3b067 52 = .ok (.iand, 1) := by decide +kernel
theorem dJ2_getChar_3b067_53 : decode cJ2_getChar_3b067 53 = .ok (.getstatic 63, 3) := by decide +kernel
theorem dJ2_getChar_3b067_56 : decode cJ2_getChar_3b067 56 = .ok (.ishl, 1) := by decide +kernel
theorem dJ2_getChar_3b067_57 : decode cJ2_getChar_3b067 57 = .ok (.ior, 1) := by decide +kernel
theorem dJ2_getChar_3b067_58 : decode cJ2_getChar_3b067 58 = .ok (.i2c, 1) := by decide +kernel
theorem dJ2_getChar_3b067_59 : decode cJ2_getChar_3b067 59 = .ok (.ireturn, 1) := by decide +kernel
theorem dJ2_length_9d52b_0 : decode cJ2_length_9d52b 0 = .ok (.aload_n 0, 1) := by decide +kernel
theorem dJ2_length_9d52b_1 : decode cJ2_length_9d52b 1 = .ok (.arraylength, 1) := by decide +kernel
theorem dJ2_length_9d52b_2 : decode cJ2_length_9d52b 2 = .ok (.iconst 1, 1) := by decide +kernel
theorem dJ2_length_9d52b_3 : decode cJ2_length_9d52b 3 = .ok (.ishr, 1) := by decide +kernel
theorem dJ2_length_9d52b_4 : decode cJ2_length_9d52b 4 = .ok (.ireturn, 1) := by decide +kernel
theorem dJ2_indexOf_4cfef_0 : decode cJ2_indexOf_4cfef 0 = .ok (.iload_n 2, 1) := by decide +kernel
theorem dJ2_indexOf_4cfef_1 : decode cJ2_indexOf_4cfef 1 = .ok (.iconst 0, 1) := by decide +kernel
theorem dJ2_indexOf_4cfef_2 : decode cJ2_indexOf_4cfef 2 = .ok (.invokestatic 224, 3) := by decide +kernel
theorem dJ2_indexOf_4cfef_5 : decode cJ2_indexOf_4cfef 5 = .ok (.istore_n 2, 1) := by decide +kernel
theorem dJ2_indexOf_4cfef_6 : decode cJ2_indexOf_4cfef 6 = .ok (.iload_n 3, 1) := by decide +kernel
theorem dJ2_indexOf_4cfef_7 : decode cJ2_indexOf_4cfef 7 = .ok (.aload_n 0, 1) := by decide +kernel
theorem dJ2_indexOf_4cfef_8 : decode cJ2_indexOf_4cfef 8 = .ok (.arraylength, 1) := by decide +kernel
theorem dJ2_indexOf_4cfef_9 : decode cJ2_indexOf_4cfef 9 = .ok (.iconst 1, 1) := by decide +kernel
theorem dJ2_indexOf_4cfef_10 : decode cJ2_indexOf_4cfef 10 = .ok (.ishr, 1) := by decide +kernel
theorem dJ2_indexOf_4cfef_11 : decode cJ2_indexOf_4cfef 11 = .ok (.invokestatic 183, 3) := by decide +kernel
theorem dJ2_indexOf_4cfef_14 : decode cJ2_indexOf_4cfef 14 = .ok (.istore_n 3, 1) := by decide +kernel
theorem dJ2_indexOf_4cfef_15 : decode cJ2_indexOf_4cfef 15 = .ok (.iload_n 2, 1) := by decide +kernel
theorem dJ2_indexOf_4cfef_16 : decode cJ2_indexOf_4cfef 16 = .ok (.iload_n 3, 1) := by decide +kernel
theorem dJ2_indexOf_4cfef_17 : decode cJ2_indexOf_4cfef 17 = .ok (.if_icmp .lt 5, 3) := by decide +kernel
theorem dJ2_indexOf_4cfef_20 : decode cJ2_indexOf_4cfef 20 = .ok (.iconst (-1), 1) := by decide +kernel
theorem dJ2_indexOf_4cfef_21 : decode cJ2_indexOf_4cfef 21 = .ok (.ireturn, 1) := by decide +kernel
theorem dJ2_indexOf_4cfef_22 : decode cJ2_indexOf_4cfef 22 = .ok (.iload_n 1, 1) := by decide +kernel
theorem dJ2_indexOf_4cfef_23 : decode cJ2_indexOf_4cfef 23 = .ok (.ldc 227, 2) := by decide +kernel
theorem dJ2_indexOf_4cfef_25 : decode cJ2_indexOf_4cfef 25 = .ok (.if_icmp .ge 11, 3) := by decide +kernel
theorem dJ2_indexOf_4cfef_28 : decode cJ2_indexOf_4cfef 28 = .ok (.aload_n 0, 1) := by decide +kernel
theorem dJ2_indexOf_4cfef_29 : decode cJ2_indexOf_4cfef 29 = .ok (.iload_n 1, 1) := by decide +kernel
theorem dJ2_indexOf_4cfef_30 : decode cJ2_indexOf_4cfef 30 = .ok (.iload_n 2, 1) := by decide +kernel
theorem dJ2_indexOf_4cfef_31 : decode cJ2_indexOf_4cfef 31 = .ok (.iload_n 3, 1) := by decide +kernel
theorem dJ2_indexOf_4cfef_32 : decode cJ2_indexOf_4cfef 32 = .ok (.invokestatic 228, 3) := by decide +kernel
theorem dJ2_indexOf_4cfef_35 : decode cJ2_indexOf_4cfef 35 = .ok (.ireturn, 1) := by decide +kernel
theorem dJ2_indexOf_4cfef_36 : decode cJ2_indexOf_4cfef 36 = .ok (.aload_n 0, 1) := by decide +kernel
theorem dJ2_indexOf_4cfef_37 : decode cJ2_indexOf_4cfef 37 = .ok (.iload_n 1, 1) := by decide +kernel
theorem dJ2_indexOf_4cfef_38 : decode cJ2_indexOf_4cfef 38 = .ok (.iload_n 2, 1) := by decide +kernel
theorem dJ2_indexOf_4cfef_39 : decode cJ2_indexOf_4cfef 39 = .ok (.iload_n 3, 1) := by decide +kernel
theorem dJ2_indexOf_4cfef_40 : decode cJ2_indexOf_4cfef 40 = .ok (.invokestatic 232, 3) := by decide +kernel
theorem dJ2_indexOf_4cfef_43 : decode cJ2_indexOf_4cfef 43 = .ok (.ireturn, 1) := by decide +kernel
theorem dJ2_indexOfChar_4cfef_0 : decode cJ2_indexOfChar_4cfef 0 = .ok (.iload_n 2, 1) := by decide +kernel
theorem dJ2_indexOfChar_4cfef_1 : decode cJ2_indexOfChar_4cfef 1 = .ok (.iload_n 3, 1) := by decide +kernel
theorem dJ2_indexOfChar_4cfef_2 : decode cJ2_indexOfChar_4cfef 2 = .ok (.aload_n 0, 1) := by decide +kernel
theorem dJ2_indexOfChar_4cfef_3 : decode cJ2_indexOfChar_4cfef 3 = .ok (.invokestatic 96, 3) := by decide +kernel
theorem dJ2_indexOfChar_4cfef_6 : decode cJ2_indexOfChar_4cfef 6 = .ok (.aload_n 0, 1) := by decide +kernel
theorem dJ2_indexOfChar_4cfef_7 : decode cJ2_indexOfChar_4cfef 7 = .ok (.iload_n 1, 1) := by decide +kernel
theorem dJ2_indexOfChar_4cfef_8 : decode cJ2_indexOfChar_4cfef 8 = .ok (.iload_n 2, 1) := by decide +kernel
theorem dJ2_indexOfChar_4cfef_9 : decode cJ2_indexOfChar_4cfef 9 = .ok (.iload_n 3, 1) := by decide +kernel
theorem dJ2_indexOfChar_4cfef_10 : decode cJ2_indexOfChar_4cfef 10 = .ok (.invokestatic 244, 3) := by decide +kernel
theorem dJ2_indexOfChar_4cfef_13 : decode cJ2_indexOfChar_4cfef 13 = .ok (.ireturn, 1) := by decide +kernel
theorem dJ2_indexOfCharUnsafe_4cfef_0 : decode cJ2_indexOfCharUnsafe_4cfef 0 = .ok (.iload_n 2, 1) := by decide +kernel
theorem dJ2_indexOfCharUnsafe_4cfef_1 : decode cJ2_indexOfCharUnsafe_4cfef 1 = .ok (.istore 4, 2) := by decide +kernel
theorem dJ2_indexOfCharUnsafe_4cfef_3 : decode cJ2_indexOfCharUnsafe_4cfef 3 = .ok (.iload 4, 2) := by decide +kernel
theorem dJ2_indexOfCharUnsafe_4cfef_5 : decode cJ2_indexOfCharUnsafe_4cfef 5 = .ok (.iload_n 3, 1) := by decide +kernel
theorem dJ2_indexOfCharUnsafe_4cfef_6 : decode cJ2_indexOfCharUnsafe_4cfef 6 = .ok (.if_icmp .ge 22, 3) := by decide +kernel
theorem dJ2_indexOfCharUnsafe_4cfef_9 : decode cJ2_indexOfCharUnsafe_4cfef 9 = .ok (.aload_n 0, 1) := by decide +kernel
theorem dJ2_indexOfCharUnsafe_4cfef_10 : decode cJ2_indexOfCharUnsafe_4cfef 10 = .ok (.iload 4, 2) := by decide +kernel
theorem dJ2_indexOfCharUnsafe_4cfef_12 : decode cJ2_indexOfCharUnsafe_4cfef 12 = .ok (.invokestatic 71, 3) := by decide +kernel
theorem dJ2_indexOfCharUnsafe_4cfef_15 : decode cJ2_indexOfCharUnsafe_4cfef 15 = .ok (.iload_n 1, 1) := by decide +kernel
theorem dJ2_indexOfCharUnsafe_4cfef_16 : decode cJ2_indexOfCharUnsafe_4cfef 16 = .ok (.if_icmp .ne 6, 3) := by decide +kernel
theorem dJ2_indexOfCharUnsafe_4cfef_19 : decode cJ2_indexOfCharUnsafe_4cfef 19 = .ok (.iload 4, 2) := by decide +kernel
theorem dJ2_indexOfCharUnsafe_4cfef_21 : decode cJ2_indexOfCharUnsafe_4cfef 21 = .ok (.ireturn, 1) := by decide +kernel
theorem dJ2_indexOfCharUnsafe_4cfef_22 : decode cJ2_indexOfCharUnsafe_4cfef 22 = .ok (.iinc 4 1, 3) := by decide +kernel
theorem dJ2_indexOfCharUnsafe_4cfef_25 : decode cJ2_indexOfCharUnsafe_4cfef 25 = .ok (.goto (-22), 3) := by decide +kernel
theorem dJ2_indexOfCharUnsafe_4cfef_28 : decode cJ2_indexOfCharUnsafe_4cfef 28 = .ok (.iconst (-1), 1) := by decide +kernel
theorem dJ2_indexOfCharUnsafe_4cfef_29 : decode cJ2_indexOfCharUnsafe_4cfef 29 = .ok (.ireturn, 1) := by decide +kernel
theorem dJ2_indexOfSupplementary_4cfef_0 : decode cJ2_indexOfSupplementary_4cfef 0 = .ok (.iload_n 1, 1) := by decide +kernel
theorem dJ2_indexOfSupplementary_4cfef_1 : decode cJ2_indexOfSupplementary_4cfef 1 = .ok (.invokestatic 164, 3) := by decide +kernel
theorem dJ2_indexOfSupplementary_4cfef_4 : decode cJ2_indexOfSupplementary_4cfef 4 = .ok (.ifCond .eq 65, 3) := by decide +kernel
theorem dJ2_indexOfSupplementary_4cfef_7 : decode cJ2_indexOfSupplementary_4cfef 7 = .ok (.iload_n 1, 1) := by decide +kernel
theorem dJ2_indexOfSupplementary_4cfef_8 : decode cJ2_indexOfSupplementary_4cfef 8 = .ok (.invokestatic 157, 3) := by decide +kernel
theorem dJ2_indexOfSupplementary_4cfef_11 : decode cJ2_indexOfSupplementary_4cfef 11 = .ok (.istore 4, 2) := by decide +kernel
theorem dJ2_indexOfSupplementary_4cfef_13 : decode cJ2_indexOfSupplementary_4cfef 13 = .ok (.iload_n 1, 1) := by decide +kernel
theorem dJ2_indexOfSupplementary_4cfef_14 : decode cJ2_indexOfSupplementary_4cfef 14 = .ok (.invokestatic 161, 3) := by decide +kernel
theorem dJ2_indexOfSupplementary_4cfef_17 : decode cJ2_indexOfSupplementary_4cfef 17 = .ok (.istore 5, 2) := by decide +kernel
theorem dJ2_indexOfSupplementary_4cfef_19 : decode cJ2_indexOfSupplementary_4cfef 19 = .ok (.iload_n 2, 1) := by decide +kernel
theorem dJ2_indexOfSupplementary_4cfef_20 : decode cJ2_indexOfSupplementary_4cfef 20 = .ok (.iload_n 3, 1) := by decide +kernel
theorem dJ2_indexOfSupplementary_4cfef_21 : decode cJ2_indexOfSupplementary_4cfef 21 = .ok (.aload_n 0, 1) := by decide +kernel
theorem dJ2_indexOfSupplementary_4cfef_22 : decode cJ2_indexOfSupplementary_4cfef 22 = .ok (.invokestatic 96, 3) := by decide +kernel
theorem dJ2_indexOfSupplementary_4cfef_25 : decode cJ2_indexOfSupplementary_4cfef 25 = .ok (.iload_n 2, 1) := by decide +kernel
theorem dJ2_indexOfSupplementary_4cfef_26 : decode cJ2_indexOfSupplementary_4cfef 26 = .ok (.istore 6, 2) := by decide +kernel
theorem dJ2_indexOfSupplementary_4cfef_28 : decode cJ2_indexOfSupplementary_4cfef 28 = .ok (.iload 6, 2) := by decide +kernel
theorem dJ2_indexOfSupplementary_4cfef_30 : decode cJ2_indexOfSupplementary_4cfef 30 = .ok (.iload_n 3, 1) := by decide +kernel
theorem dJ2_indexOfSupplementary_4cfef_31 : decode cJ2_indexOfSupplementary_4cfef 31 = .ok (.iconst 1, 1) := by decide +kernel
theorem dJ2_indexOfSupplementary_4cfef_32 : decode cJ2_indexOfSupplementary_4cfef 32 = .ok (.isub, 1) := by decide +kernel
theorem dJ2_indexOfSupplementary_4cfef_33 : decode cJ2_indexOfSupplementary_4cfef 33 = .ok (.if_icmp .ge 36, 3) := by decide +kernel
theorem dJ2_indexOfSupplementary_4cfef_36 : decode cJ2_indexOfSupplementary_4cfef 36 = .ok (.aload_n 0, 1) := by decide +kernel
theorem dJ2_indexOfSupplementary_4cfef_37 : decode cJ2_indexOfSupplementary_4cfef 37 = .ok (.iload 6, 2) := by decide +kernel
theorem dJ2_indexOfSupplementary_4cfef_39 : decode cJ2_indexOfSupplementary_4cfef 39 = .ok (.invokestatic 71, 3) := by decide +kernel
theorem dJ2_indexOfSupplementary_4cfef_42 : decode cJ2_indexOfSupplementary_4cfef 42 = .ok (.iload 4, 2) := by decide +kernel
theorem dJ2_indexOfSupplementary_4cfef_44 : decode cJ2_indexOfSupplementary_4cfef 44 = .ok (.if_icmp .ne 19, 3) := by decide +kernel
theorem dJ2_indexOfSupplementary_4cfef_47 : decode cJ2_indexOfSupplementary_4cfef 47 = .ok (.aload_n 0, 1) := by decide +kernel
theorem dJ2_indexOfSupplementary_4cfef_48 : decode cJ2_indexOfSupplementary_4cfef 48 = .ok (.iload 6, 2) := by decide +kernel
theorem dJ2_indexOfSupplementary_4cfef_50 : decode cJ2_indexOfSupplementary_4cfef 50 = .ok (.iconst 1, 1) := by decide +kernel
theorem dJ2_indexOfSupplementary_4cfef_51 : decode cJ2_indexOfSupplementary_4cfef 51 = .ok (.iadd, 1) := by decide +kernel
theorem dJ2_indexOfSupplementary_4cfef_52 : decode cJ2_indexOfSupplementary_4cfef 52 = .ok (.invokestatic 71, 3) := by decide +kernel
theorem dJ2_indexOfSupplementary_4cfef_55 : decode cJ2_indexOfSupplementary_4cfef 55 = .ok (.iload 5, 2) := by decide +kernel
theorem dJ2_indexOfSupplementary_4cfef_57 : decode cJ2_indexOfSupplementary_4cfef 57 = .ok (.if_icmp .ne 6, 3) := by decide +kernel
theorem dJ2_indexOfSupplementary_4cfef_60 : decode cJ2_indexOfSupplementary_4cfef 60 = .ok (.iload 6, 2) := by decide +kernel
theorem dJ2_indexOfSupplementary_4cfef_62 : decode cJ2_indexOfSupplementary_4cfef 62 = .ok (.ireturn, 1) := by decide +kernel
theorem dJ2_indexOfSupplementary_4cfef_63 : decode cJ2_indexOfSupplementary_4cfef 63 = .ok (.iinc 6 1, 3) := by decide +kernel
theorem dJ2_indexOfSupplementary_4cfef_66 : decode cJ2_indexOfSupplementary_4cfef 66 = .ok (.goto (-38), 3) := by decide +kernel
theorem dJ2_indexOfSupplementary_4cfef_69 : decode cJ2_indexOfSupplementary_4cfef 69 = .ok (.iconst (-1), 1) := by decide +kernel
theorem dJ2_indexOfSupplementary_4cfef_70 : decode cJ2_indexOfSupplementary_4cfef 70 = .ok (.ireturn, 1) := by decide +kernel
theorem dJ2_checkBoundsBeginEnd_d044e_0 : decode cJ2_checkBoundsBeginEnd_d044e 0 = .ok (.iload_n 0, 1) := by decide +kernel
theorem dJ2_checkBoundsBeginEnd_d044e_1 : decode cJ2_checkBoundsBeginEnd_d044e 1 = .ok (.iload_n 1, 1) := by decide +kernel
theorem dJ2_checkBoundsBeginEnd_d044e_2 : decode cJ2_checkBoundsBeginEnd_d044e 2 = .ok (.aload_n 2, 1) := by decide +kernel
theorem dJ2_checkBoundsBeginEnd_d044e_3 : decode cJ2_checkBoundsBeginEnd_d044e 3 = .ok (.invokestatic 48, 3) := by decide +kernel
theorem dJ2_checkBoundsBeginEnd_d044e_6 : decode cJ2_checkBoundsBeginEnd_d044e 6 = .ok (.invokestatic 241, 3) := by decide +kernel
theorem dJ2_checkBoundsBeginEnd_d044e_9 : decode cJ2_checkBoundsBeginEnd_d044e 9 = .ok (.return_, 1) := by decide +kernel
theorem dJ3_checkFromToIndex_8c36e_0 : decode cJ3_checkFromToIndex_8c36e 0 = .ok (.iload_n 0, 1) := by decide +kernel
theorem dJ3_checkFromToIndex_8c36e_1 : decode cJ3_checkFromToIndex_8c36e 1 = .ok (.ifCond .lt 13, 3) := by decide +kernel
theorem dJ3_checkFromToIndex_8c36e_4 : decode cJ3_checkFromToIndex_8c36e 4 = .ok (.iload_n 0, 1) := by decide +kernel
theorem dJ3_checkFromToIndex_8c36e_5 : decode cJ3_checkFromToIndex_8c36e 5 = .ok (.iload_n 1, 1) := by decide +kernel
theorem dJ3_checkFromToIndex_8c36e_6 : decode cJ3_checkFromToIndex_8c36e 6 = .ok (.if_icmp .gt 8, 3) := by decide +kernel
theorem dJ3_checkFromToIndex_8c36e_9 : decode cJ3_checkFromToIndex_8c36e 9 = .ok (.iload_n 1, 1) := by decide +kernel
theorem dJ3_checkFromToIndex_8c36e_10 : decode cJ3_checkFromToIndex_8c36e 10 = .ok (.iload_n 2, 1) := by decide +kernel
theorem dJ3_checkFromToIndex_8c36e_11 : decode cJ3_checkFromToIndex_8c36e 11 = .ok (.if_icmp .le 11, 3) := by decide +kernel
theorem dJ3_checkFromToIndex_8c36e_14 : decode cJ3_checkFromToIndex_8c36e 14 = .ok (.aload_n 3, 1) := by decide +kernel
theorem dJ3_checkFromToIndex_8c36e_15 : decode cJ3_checkFromToIndex_8c36e 15 = .ok (.iload_n 0, 1) := by decide +kernel
theorem dJ3_checkFromToIndex_8c36e_16 : decode cJ3_checkFromToIndex_8c36e 16 = .ok (.iload_n 1, 1) := by decide +kernel
theorem dJ3_checkFromToIndex_8c36e_17 : decode cJ3_checkFromToIndex_8c36e 17 = .ok (.iload_n 2, 1) := by decide +kernel
theorem dJ3_checkFromToIndex_8c36e_18 : decode cJ3_checkFromToIndex_8c36e 18 = .ok (.invokestatic 99, 3) := by decide +kernel
theorem dJ3_checkFromToIndex_8c36e_21 : decode cJ3_checkFromToIndex_8c36e 21 = .ok (.athrow, 1) := by decide +kernel
theorem dJ3_checkFromToIndex_8c36e_22 : decode cJ3_checkFromToIndex_8c36e 22 = .ok (.iload_n 0, 1) := by decide +kernel
theorem dJ3_checkFromToIndex_8c36e_23 : decode cJ3_checkFromToIndex_8c36e 23 = .ok (.ireturn, 1) := by decide +kernel
