theorem dX7_init_0 : decode cX7_init 0 = .ok (.aload_n 0, 1) := by decide +kernel
theorem dX7_init_1 : decode cX7_init 1 = .ok (.invokespecial 1, 3) := by decide +kernel
theorem dX7_init_4 : decode cX7_init 4 = .ok (.aload_n 0, 1) := by decide +kernel
theorem dX7_init_5 : decode cX7_init 5 = .ok (.bipush 12, 2) := by decide +kernel
theorem dX7_init_7 : decode cX7_init 7 = .ok (.newarray .int, 2) := by decide +kernel
theorem dX7_init_9 : decode cX7_init 9 = .ok (.putfield 7, 3) := by decide +kernel
theorem dX7_init_12 : decode cX7_init 12 = .ok (.aload_n 0, 1) := by decide +kernel
theorem dX7_init_13 : decode cX7_init 13 = .ok (.bipush 12, 2) := by decide +kernel
theorem dX7_init_15 : decode cX7_init 15 = .ok (.newarray .int, 2) := by decide +kernel
theorem dX7_init_17 : decode cX7_init 17 = .ok (.putfield 13, 3) := by decide +kernel
theorem dX7_init_20 : decode cX7_init 20 = .ok (.aload_n 0, 1) := by decide +kernel
theorem dX7_init_21 : decode cX7_init 21 = .ok (.bipush 20, 2) := by decide +kernel
theorem dX7_init_23 : decode cX7_init 23 = .ok (.newarray .int, 2) := by decide +kernel
theorem dX7_init_25 : decode cX7_init 25 = .ok (.putfield 16, 3) := by decide +kernel
theorem dX7_init_28 : decode cX7_init 28 = .ok (.aload_n 0, 1) := by decide +kernel
theorem dX7_init_29 : decode cX7_init 29 = .ok (.bipush 20, 2) := by decide +kernel
theorem dX7_init_31 : decode cX7_init 31 = .ok (.newarray .int, 2) := by decide +kernel
theorem dX7_init_33 : decode cX7_init 33 = .ok (.putfield 19, 3) := by decide +kernel
theorem dX7_init_36 : decode cX7_init 36 = .ok (.aload_n 0, 1) := by decide +kernel
theorem dX7_init_37 : decode cX7_init 37 = .ok (.bipush 120, 2) := by decide +kernel
theorem dX7_init_39 : decode cX7_init 39 = .ok (.newarray .int, 2) := by decide +kernel
theorem dX7_init_41 : decode cX7_init 41 = .ok (.putfield 22, 3) := by decide +kernel
theorem dX7_init_44 : decode cX7_init 44 = .ok (.aload_n 0, 1) := by decide +kernel
theorem dX7_init_45 : decode cX7_init 45 = .ok (.bipush 120, 2) := by decide +kernel
theorem dX7_init_47 : decode cX7_init 47 = .ok (.newarray .int, 2) := by decide +kernel
theorem dX7_init_49 : decode cX7_init 49 = .ok (.putfield 25, 3) := by decide +kernel
theorem dX7_init_52 : decode cX7_init 52 = .ok (.aload_n 0, 1) := by decide +kernel
theorem dX7_init_53 : decode cX7_init 53 = .ok (.bipush 120, 2) := by decide +kernel
theorem dX7_init_55 : decode cX7_init 55 = .ok (.newarray .int, 2) := by decide +kernel
theorem dX7_init_57 : decode cX7_init 57 = .ok (.putfield 28, 3) := by decide +kernel
theorem dX7_init_60 : decode cX7_init 60 = .ok (.aload_n 0, 1) := by decide +kernel
theorem dX7_init_61 : decode cX7_init 61 = .ok (.iconst 5, 1) := by decide +kernel
theorem dX7_init_62 : decode cX7_init 62 = .ok (.putfield 31, 3) := by decide +kernel
theorem dX7_init_65 : decode cX7_init 65 = .ok (.aload_n 0, 1) := by decide +kernel
theorem dX7_init_66 : decode cX7_init 66 = .ok (.bipush 9, 2) := by decide +kernel
theorem dX7_init_68 : decode cX7_init 68 = .ok (.newarray .int, 2) := by decide +kernel
theorem dX7_init_70 : decode cX7_init 70 = .ok (.dup, 1) := by decide +kernel
theorem dX7_init_71 : decode cX7_init 71 = .ok (.iconst 0, 1) := by decide +kernel
theorem dX7_init_72 : decode cX7_init 72 = .ok (.iconst 0, 1) := by decide +kernel
theorem dX7_init_73 : decode cX7_init 73 = .ok (.iastore, 1) := by decide +kernel
theorem dX7_init_74 : decode cX7_init 74 = .ok (.dup, 1) := by decide +kernel
theorem dX7_init_75 : decode cX7_init 75 = .ok (.iconst 1, 1) := by decide +kernel
theorem dX7_init_76 : decode cX7_init 76 = .ok (.iconst 1, 1) := by decide +kernel
theorem dX7_init_77 : decode cX7_init 77 = .ok (.iastore, 1) := by decide +kernel
theorem dX7_init_78 : decode cX7_init 78 = .ok (.dup, 1) := by decide +kernel
theorem dX7_init_79 : decode cX7_init 79 = .ok (.iconst 2, 1) := by decide +kernel
theorem dX7_init_80 : decode cX7_init 80 = .ok (.iconst 3, 1) := by decide +kernel
theorem dX7_init_81 : decode cX7_init 81 = .ok (.iastore, 1) := by decide +kernel
theorem dX7_init_82 : decode cX7_init 82 = .ok (.dup, 1) := by decide +kernel
theorem dX7_init_83 : decode cX7_init 83 = .ok (.iconst 3, 1) := by decide +kernel
theorem dX7_init_84 : decode cX7_init 84 = .ok (.iconst 4, 1) := by decide +kernel
theorem dX7_init_85 : decode cX7_init 85 = .ok (.iastore, 1) := by decide +kernel
theorem dX7_init_86 : decode cX7_init 86 = .ok (.dup, 1) := by decide +kernel
theorem dX7_init_87 : decode cX7_init 87 = .ok (.iconst 4, 1) := by decide +kernel
theorem dX7_init_88 : decode cX7_init 88 = .ok (.bipush 8, 2) := by decide +kernel
theorem dX7_init_90 : decode cX7_init 90 = .ok (.iastore, 1) := by decide +kernel
theorem dX7_init_91 : decode cX7_init 91 = .ok (.dup, 1) := by decide +kernel
theorem dX7_init_92 : decode cX7_init 92 = .ok (.iconst 5, 1) := by decide +kernel
theorem dX7_init_93 : decode cX7_init 93 = .ok (.iconst 0, 1) := by decide +kernel
theorem dX7_init_94 : decode cX7_init 94 = .ok (.iastore, 1) := by decide +kernel
theorem dX7_init_95 : decode cX7_init 95 = .ok (.dup, 1) := by decide +kernel
theorem dX7_init_96 : decode cX7_init 96 = .ok (.bipush 6, 2) := by decide +kernel
theorem dX7_init_98 : decode cX7_init 98 = .ok (.iconst 0, 1) := by decide +kernel
theorem dX7_init_99 : decode cX7_init 99 = .ok (.iastore, 1) := by decide +kernel
theorem dX7_init_100 : decode cX7_init 100 = .ok (.dup, 1) := by decide +kernel
theorem dX7_init_101 : decode cX7_init 101 = .ok (.bipush 7, 2) := by decide +kernel
theorem dX7_init_103 : decode cX7_init 103 = .ok (.iconst 0, 1) := by decide +kernel
theorem dX7_init_104 : decode cX7_init 104 = .ok (.iastore, 1) := by decide +kernel
theorem dX7_init_105 : decode cX7_init 105 = .ok (.dup, 1) := by decide +kernel
theorem dX7_init_106 : decode cX7_init 106 = .ok (.bipush 8, 2) := by decide +kernel
theorem dX7_init_108 : decode cX7_init 108 = .ok (.iconst 0, 1) := by decide +kernel
theorem dX7_init_109 : decode cX7_init 109 = .ok (.iastore, 1) := by decide +kernel
theorem dX7_init_110 : decode cX7_init 110 = .ok (.putfield 35, 3) := by decide +kernel
theorem dX7_init_113 : decode cX7_init 113 = .ok (.aload_n 0, 1) := by decide +kernel
theorem dX7_init_114 : decode cX7_init 114 = .ok (.bipush 108, 2) := by decide +kernel
theorem dX7_init_116 : decode cX7_init 116 = .ok (.newarray .int, 2) := by decide +kernel
theorem dX7_init_118 : decode cX7_init 118 = .ok (.putfield 38, 3) := by decide +kernel
theorem dX7_init_121 : decode cX7_init 121 = .ok (.aload_n 0, 1) := by decide +kernel
theorem dX7_init_122 : decode cX7_init 122 = .ok (.bipush 12, 2) := by decide +kernel
theorem dX7_init_124 : decode cX7_init 124 = .ok (.newarray .int, 2) := by decide +kernel
theorem dX7_init_126 : decode cX7_init 126 = .ok (.putfield 41, 3) := by decide +kernel
theorem dX7_init_129 : decode cX7_init 129 = .ok (.aload_n 0, 1) := by decide +kernel
theorem dX7_init_130 : decode cX7_init 130 = .ok (.bipush 12, 2) := by decide +kernel
theorem dX7_init_132 : decode cX7_init 132 = .ok (.newarray .int, 2) := by decide +kernel
theorem dX7_init_134 : decode cX7_init 134 = .ok (.putfield 44, 3) := by decide +kernel
theorem dX7_init_137 : decode cX7_init 137 = .ok (.aload_n 0, 1) := by decide +kernel
theorem dX7_init_138 : decode cX7_init 138 = .ok (.sipush 144, 3) := by decide +kernel
theorem dX7_init_141 : decode cX7_init 141 = .ok (.newarray .int, 2) := by decide +kernel
theorem dX7_init_143 : decode cX7_init 143 = .ok (.putfield 47, 3) := by decide +kernel
theorem dX7_init_146 : decode cX7_init 146 = .ok (.aload_n 0, 1) := by decide +kernel
theorem dX7_init_147 : decode cX7_init 147 = .ok (.sipush 4096, 3) := by decide +kernel
theorem dX7_init_150 : decode cX7_init 150 = .ok (.newarray .int, 2) := by decide +kernel
theorem dX7_init_152 : decode cX7_init 152 = .ok (.putfield 50, 3) := by decide +kernel
theorem dX7_init_155 : decode cX7_init 155 = .ok (.aload_n 0, 1) := by decide +kernel
theorem dX7_init_156 : decode cX7_init 156 = .ok (.sipush 4096, 3) := by decide +kernel
theorem dX7_init_159 : decode cX7_init 159 = .ok (.newarray .int, 2) := by decide +kernel
theorem dX7_init_161 : decode cX7_init 161 = .ok (.putfield 53, 3) := by decide +kernel
theorem dX7_init_164 : decode cX7_init 164 = .ok (.aload_n 0, 1) := by decide +kernel
theorem dX7_init_165 : decode cX7_init 165 = .ok (.bipush 40, 2) := by decide +kernel
theorem dX7_init_167 : decode cX7_init 167 = .ok (.newarray .int, 2) := by decide +kernel
theorem dX7_init_169 : decode cX7_init 169 = .ok (.putfield 56, 3) := by decide +kernel
theorem dX7_init_172 : decode cX7_init 172 = .ok (.aload_n 0, 1) := by decide +kernel
theorem dX7_init_173 : decode cX7_init 173 = .ok (.bipush 120, 2) := by decide +kernel
theorem dX7_init_175 : decode cX7_init 175 = .ok (.newarray .int, 2) := by decide +kernel
theorem dX7_init_177 : decode cX7_init 177 = .ok (.putfield 59, 3) := by decide +kernel
theorem dX7_init_180 : decode cX7_init 180 = .ok (.aload_n 0, 1) := by decide +kernel
theorem dX7_init_181 : decode cX7_init 181 = .ok (.iconst 4, 1) := by decide +kernel
theorem dX7_init_182 : decode cX7_init 182 = .ok (.newarray .boolean, 2) := by decide +kernel
theorem dX7_init_184 : decode cX7_init 184 = .ok (.putfield 62, 3) := by decide +kernel
theorem dX7_init_187 : decode cX7_init 187 = .ok (.aload_n 0, 1) := by decide +kernel
theorem dX7_init_188 : decode cX7_init 188 = .ok (.iconst 4, 1) := by decide +kernel
theorem dX7_init_189 : decode cX7_init 189 = .ok (.newarray .int, 2) := by decide +kernel
theorem dX7_init_191 : decode cX7_init 191 = .ok (.putfield 66, 3) := by decide +kernel
theorem dX7_init_194 : decode cX7_init 194 = .ok (.aload_n 0, 1) := by decide +kernel
theorem dX7_init_195 : decode cX7_init 195 = .ok (.bipush 80, 2) := by decide +kernel
theorem dX7_init_197 : decode cX7_init 197 = .ok (.newarray .int, 2) := by decide +kernel
theorem dX7_init_199 : decode cX7_init 199 = .ok (.putfield 69, 3) := by decide +kernel
theorem dX7_init_202 : decode cX7_init 202 = .ok (.aload_n 0, 1) := by decide +kernel
theorem dX7_init_203 : decode cX7_init 203 = .ok (.sipush 460, 3) := by decide +kernel
theorem dX7_init_206 : decode cX7_init 206 = .ok (.newarray .int, 2) := by decide +kernel
theorem dX7_init_208 : decode cX7_init 208 = .ok (.putfield 72, 3) := by decide +kernel
theorem dX7_init_211 : decode cX7_init 211 = .ok (.aload_n 0, 1) := by decide +kernel
theorem dX7_init_212 : decode cX7_init 212 = .ok (.iconst 0, 1) := by decide +kernel
theorem dX7_init_213 : decode cX7_init 213 = .ok (.putfield 75, 3) := by decide +kernel
theorem dX7_init_216 : decode cX7_init 216 = .ok (.return_, 1) := by decide +kernel
theorem dX7_in_0 : decode cX7_in 0 = .ok (.lload_n 0, 1) := by decide +kernel
theorem dX7_in_1 : decode cX7_in 1 = .ok (.lload_n 2, 1) := by decide +kernel
theorem dX7_in_2 : decode cX7_in 2 = .ok (.lcmp, 1) := by decide +kernel
theorem dX7_in_3 : decode cX7_in 3 = .ok (.ifCond .lt 14, 3) := by decide +kernel
theorem dX7_in_6 : decode cX7_in 6 = .ok (.lload_n 0, 1) := by decide +kernel
theorem dX7_in_7 : decode cX7_in 7 = .ok (.lload 4, 2) := by decide +kernel
theorem dX7_in_9 : decode cX7_in 9 = .ok (.lcmp, 1) := by decide +kernel
theorem dX7_in_10 : decode cX7_in 10 = .ok (.ifCond .gt 7, 3) := by decide +kernel
theorem dX7_in_13 : decode cX7_in 13 = .ok (.iconst 1, 1) := by decide +kernel
theorem dX7_in_14 : decode cX7_in 14 = .ok (.goto 4, 3) := by decide +kernel
theorem dX7_in_17 : decode cX7_in 17 = .ok (.iconst 0, 1) := by decide +kernel
theorem dX7_in_18 : decode cX7_in 18 = .ok (.ireturn, 1) := by decide +kernel
theorem dX7_isPlayer_0 : decode cX7_isPlayer 0 = .ok (.iload_n 1, 1) := by decide +kernel
theorem dX7_isPlayer_1 : decode cX7_isPlayer 1 = .ok (.i2l, 1) := by decide +kernel
theorem dX7_isPlayer_2 : decode cX7_isPlayer 2 = .ok (.lconst 0, 1) := by decide +kernel
theorem dX7_isPlayer_3 : decode cX7_isPlayer 3 = .ok (.aload_n 0, 1) := by decide +kernel
theorem dX7_isPlayer_4 : decode cX7_isPlayer 4 = .ok (.getfield 78, 3) := by decide +kernel
theorem dX7_isPlayer_7 : decode cX7_isPlayer 7 = .ok (.iconst 1, 1) := by decide +kernel
theorem dX7_isPlayer_8 : decode cX7_isPlayer 8 = .ok (.isub, 1) := by decide +kernel
theorem dX7_isPlayer_9 : decode cX7_isPlayer 9 = .ok (.i2l, 1) := by decide +kernel
theorem dX7_isPlayer_10 : decode cX7_isPlayer 10 = .ok (.invokestatic 81, 3) := by decide +kernel
theorem dX7_isPlayer_13 : decode cX7_isPlayer 13 = .ok (.ireturn, 1) := by decide +kernel
theorem dX7_areTwo_0 : decode cX7_areTwo 0 = .ok (.aload_n 0, 1) := by decide +kernel
theorem dX7_areTwo_1 : decode cX7_areTwo 1 = .ok (.iload_n 1, 1) := by decide +kernel
theorem dX7_areTwo_2 : decode cX7_areTwo 2 = .ok (.invokevirtual 85, 3) := by decide +kernel
theorem dX7_areTwo_5 : decode cX7_areTwo 5 = .ok (.ifCond .eq 20, 3) := by decide +kernel
theorem dX7_areTwo_8 : decode cX7_areTwo 8 = .ok (.aload_n 0, 1) := by decide +kernel
theorem dX7_areTwo_9 : decode cX7_areTwo 9 = .ok (.iload_n 2, 1) := by decide +kernel
theorem dX7_areTwo_10 : decode cX7_areTwo 10 = .ok (.invokevirtual 85, 3) := by decide +kernel
theorem dX7_areTwo_13 : decode cX7_areTwo 13 = .ok (.ifCond .eq 12, 3) := by decide +kernel
theorem dX7_areTwo_16 : decode cX7_areTwo 16 = .ok (.iload_n 1, 1) := by decide +kernel
theorem dX7_areTwo_17 : decode cX7_areTwo 17 = .ok (.iload_n 2, 1) := by decide +kernel
theorem dX7_areTwo_18 : decode cX7_areTwo 18 = .ok (.if_icmp .eq 7, 3) := by decide +kernel
theorem dX7_areTwo_21 : decode cX7_areTwo 21 = .ok (.iconst 1, 1) := by decide +kernel
theorem dX7_areTwo_22 : decode cX7_areTwo 22 = .ok (.goto 4, 3) := by decide +kernel
theorem dX7_areTwo_25 : decode cX7_areTwo 25 = .ok (.iconst 0, 1) := by decide +kernel
theorem dX7_areTwo_26 : decode cX7_areTwo 26 = .ok (.ireturn, 1) := by decide +kernel
theorem dX7_manyIn_0 : decode cX7_manyIn 0 = .ok (.iconst 0, 1) := by decide +kernel
theorem dX7_manyIn_1 : decode cX7_manyIn 1 = .ok (.istore_n 1, 1) := by decide +kernel
theorem dX7_manyIn_2 : decode cX7_manyIn 2 = .ok (.iconst 0, 1) := by decide +kernel
theorem dX7_manyIn_3 : decode cX7_manyIn 3 = .ok (.istore_n 2, 1) := by decide +kernel
theorem dX7_manyIn_4 : decode cX7_manyIn 4 = .ok (.iload_n 2, 1) := by decide +kernel
theorem dX7_manyIn_5 : decode cX7_manyIn 5 = .ok (.aload_n 0, 1) := by decide +kernel
theorem dX7_manyIn_6 : decode cX7_manyIn 6 = .ok (.getfield 78, 3) := by decide +kernel
theorem dX7_manyIn_9 : decode cX7_manyIn 9 = .ok (.if_icmp .ge 18, 3) := by decide +kernel
theorem dX7_manyIn_12 : decode cX7_manyIn 12 = .ok (.iload_n 1, 1) := by decide +kernel
theorem dX7_manyIn_13 : decode cX7_manyIn 13 = .ok (.aload_n 0, 1) := by decide +kernel
theorem dX7_manyIn_14 : decode cX7_manyIn 14 = .ok (.getfield 13, 3) := by decide +kernel
theorem dX7_manyIn_17 : decode cX7_manyIn 17 = .ok (.iload_n 2, 1) := by decide +kernel
theorem dX7_manyIn_18 : decode cX7_manyIn 18 = .ok (.iaload, 1) := by decide +kernel
theorem dX7_manyIn_19 : decode cX7_manyIn 19 = .ok (.iadd, 1) := by decide +kernel
theorem dX7_manyIn_20 : decode cX7_manyIn 20 = .ok (.istore_n 1, 1) := by decide +kernel
theorem dX7_manyIn_21 : decode cX7_manyIn 21 = .ok (.iinc 2 1, 3) := by decide +kernel
theorem dX7_manyIn_24 : decode cX7_manyIn 24 = .ok (.goto (-20), 3) := by decide +kernel
theorem dX7_manyIn_27 : decode cX7_manyIn 27 = .ok (.iload_n 1, 1) := by decide +kernel
theorem dX7_manyIn_28 : decode cX7_manyIn 28 = .ok (.ireturn, 1) := by decide +kernel
theorem dX7_done_0 : decode cX7_done 0 = .ok (.aload_n 0, 1) := by decide +kernel
theorem dX7_done_1 : decode cX7_done 1 = .ok (.getfield 89, 3) := by decide +kernel
theorem dX7_done_4 : decode cX7_done 4 = .ok (.aload_n 0, 1) := by decide +kernel
theorem dX7_done_5 : decode cX7_done 5 = .ok (.getfield 92, 3) := by decide +kernel
theorem dX7_done_8 : decode cX7_done 8 = .ok (.isub, 1) := by decide +kernel
theorem dX7_done_9 : decode cX7_done 9 = .ok (.ireturn, 1) := by decide +kernel
theorem dX7_boardOf_0 : decode cX7_boardOf 0 = .ok (.iconst (-1), 1) := by decide +kernel
theorem dX7_boardOf_1 : decode cX7_boardOf 1 = .ok (.istore_n 3, 1) := by decide +kernel
theorem dX7_boardOf_2 : decode cX7_boardOf 2 = .ok (.iconst 0, 1) := by decide +kernel
theorem dX7_boardOf_3 : decode cX7_boardOf 3 = .ok (.istore 4, 2) := by decide +kernel
theorem dX7_boardOf_5 : decode cX7_boardOf 5 = .ok (.iload 4, 2) := by decide +kernel
theorem dX7_boardOf_7 : decode cX7_boardOf 7 = .ok (.aload_n 0, 1) := by decide +kernel
theorem dX7_boardOf_8 : decode cX7_boardOf 8 = .ok (.getfield 16, 3) := by decide +kernel
theorem dX7_boardOf_11 : decode cX7_boardOf 11 = .ok (.iload_n 2, 1) := by decide +kernel
theorem dX7_boardOf_12 : decode cX7_boardOf 12 = .ok (.iaload, 1) := by decide +kernel
theorem dX7_boardOf_13 : decode cX7_boardOf 13 = .ok (.if_icmp .ge 53, 3) := by decide +kernel
theorem dX7_boardOf_16 : decode cX7_boardOf 16 = .ok (.aload_n 0, 1) := by decide +kernel
theorem dX7_boardOf_17 : decode cX7_boardOf 17 = .ok (.getfield 22, 3) := by decide +kernel
theorem dX7_boardOf_20 : decode cX7_boardOf 20 = .ok (.bipush 6, 2) := by decide +kernel
theorem dX7_boardOf_22 : decode cX7_boardOf 22 = .ok (.iload_n 2, 1) := by decide +kernel
theorem dX7_boardOf_23 : decode cX7_boardOf 23 = .ok (.imul, 1) := by decide +kernel
theorem dX7_boardOf_24 : decode cX7_boardOf 24 = .ok (.iload 4, 2) := by decide +kernel
theorem dX7_boardOf_26 : decode cX7_boardOf 26 = .ok (.iadd, 1) := by decide +kernel
theorem dX7_boardOf_27 : decode cX7_boardOf 27 = .ok (.iaload, 1) := by decide +kernel
theorem dX7_boardOf_28 : decode cX7_boardOf 28 = .ok (.iload_n 1, 1) := by decide +kernel
theorem dX7_boardOf_29 : decode cX7_boardOf 29 = .ok (.if_icmp .eq 19, 3) := by decide +kernel
theorem dX7_boardOf_32 : decode cX7_boardOf 32 = .ok (.aload_n 0, 1) := by decide +kernel
theorem dX7_boardOf_33 : decode cX7_boardOf 33 = .ok (.getfield 25, 3) := by decide +kernel
theorem dX7_boardOf_36 : decode cX7_boardOf 36 = .ok (.bipush 6, 2) := by decide +kernel
theorem dX7_boardOf_38 : decode cX7_boardOf 38 = .ok (.iload_n 2, 1) := by decide +kernel
theorem dX7_boardOf_39 : decode cX7_boardOf 39 = .ok (.imul, 1) := by decide +kernel
theorem dX7_boardOf_40 : decode cX7_boardOf 40 = .ok (.iload 4, 2) := by decide +kernel
theorem dX7_boardOf_42 : decode cX7_boardOf 42 = .ok (.iadd, 1) := by decide +kernel
theorem dX7_boardOf_43 : decode cX7_boardOf 43 = .ok (.iaload, 1) := by decide +kernel
theorem dX7_boardOf_44 : decode cX7_boardOf 44 = .ok (.iload_n 1, 1) := by decide +kernel
theorem dX7_boardOf_45 : decode cX7_boardOf 45 = .ok (.if_icmp .ne 13, 3) := by decide +kernel
theorem dX7_boardOf_48 : decode cX7_boardOf 48 = .ok (.bipush 6, 2) := by decide +kernel
theorem dX7_boardOf_50 : decode cX7_boardOf 50 = .ok (.iload_n 2, 1) := by decide +kernel
theorem dX7_boardOf_51 : decode cX7_boardOf 51 = .ok (.imul, 1) := by decide +kernel
theorem dX7_boardOf_52 : decode cX7_boardOf 52 = .ok (.iload 4, 2) := by decide +kernel
theorem dX7_boardOf_54 : decode cX7_boardOf 54 = .ok (.iadd, 1) := by decide +kernel
theorem dX7_boardOf_55 : decode cX7_boardOf 55 = .ok (.goto 4, 3) := by decide +kernel
theorem dX7_boardOf_58 : decode cX7_boardOf 58 = .ok (.iload_n 3, 1) := by decide +kernel
theorem dX7_boardOf_59 : decode cX7_boardOf 59 = .ok (.istore_n 3, 1) := by decide +kernel
theorem dX7_boardOf_60 : decode cX7_boardOf 60 = .ok (.iinc 4 1, 3) := by decide +kernel
theorem dX7_boardOf_63 : decode cX7_boardOf 63 = .ok (.goto (-58), 3) := by decide +kernel
theorem dX7_boardOf_66 : decode cX7_boardOf 66 = .ok (.iload_n 3, 1) := by decide +kernel
theorem dX7_boardOf_67 : decode cX7_boardOf 67 = .ok (.ireturn, 1) := by decide +kernel
theorem dX7_otherOn_0 : decode cX7_otherOn 0 = .ok (.aload_n 0, 1) := by decide +kernel
theorem dX7_otherOn_1 : decode cX7_otherOn 1 = .ok (.getfield 22, 3) := by decide +kernel
theorem dX7_otherOn_4 : decode cX7_otherOn 4 = .ok (.iload_n 1, 1) := by decide +kernel
theorem dX7_otherOn_5 : decode cX7_otherOn 5 = .ok (.iaload, 1) := by decide +kernel
theorem dX7_otherOn_6 : decode cX7_otherOn 6 = .ok (.iload_n 2, 1) := by decide +kernel
theorem dX7_otherOn_7 : decode cX7_otherOn 7 = .ok (.if_icmp .ne 12, 3) := by decide +kernel
theorem dX7_otherOn_10 : decode cX7_otherOn 10 = .ok (.aload_n 0, 1) := by decide +kernel
theorem dX7_otherOn_11 : decode cX7_otherOn 11 = .ok (.getfield 25, 3) := by decide +kernel
theorem dX7_otherOn_14 : decode cX7_otherOn 14 = .ok (.iload_n 1, 1) := by decide +kernel
theorem dX7_otherOn_15 : decode cX7_otherOn 15 = .ok (.iaload, 1) := by decide +kernel
theorem dX7_otherOn_16 : decode cX7_otherOn 16 = .ok (.goto 9, 3) := by decide +kernel
theorem dX7_otherOn_19 : decode cX7_otherOn 19 = .ok (.aload_n 0, 1) := by decide +kernel
theorem dX7_otherOn_20 : decode cX7_otherOn 20 = .ok (.getfield 22, 3) := by decide +kernel
theorem dX7_otherOn_23 : decode cX7_otherOn 23 = .ok (.iload_n 1, 1) := by decide +kernel
theorem dX7_otherOn_24 : decode cX7_otherOn 24 = .ok (.iaload, 1) := by decide +kernel
theorem dX7_otherOn_25 : decode cX7_otherOn 25 = .ok (.ireturn, 1) := by decide +kernel
theorem dX7_madeOn_0 : decode cX7_madeOn 0 = .ok (.aload_n 0, 1) := by decide +kernel
theorem dX7_madeOn_1 : decode cX7_madeOn 1 = .ok (.getfield 28, 3) := by decide +kernel
theorem dX7_madeOn_4 : decode cX7_madeOn 4 = .ok (.iload_n 1, 1) := by decide +kernel
theorem dX7_madeOn_5 : decode cX7_madeOn 5 = .ok (.iaload, 1) := by decide +kernel
theorem dX7_madeOn_6 : decode cX7_madeOn 6 = .ok (.istore_n 3, 1) := by decide +kernel
theorem dX7_madeOn_7 : decode cX7_madeOn 7 = .ok (.aload_n 0, 1) := by decide +kernel
theorem dX7_madeOn_8 : decode cX7_madeOn 8 = .ok (.getfield 22, 3) := by decide +kernel
theorem dX7_madeOn_11 : decode cX7_madeOn 11 = .ok (.iload_n 1, 1) := by decide +kernel
theorem dX7_madeOn_12 : decode cX7_madeOn 12 = .ok (.iaload, 1) := by decide +kernel
theorem dX7_madeOn_13 : decode cX7_madeOn 13 = .ok (.iload_n 2, 1) := by decide +kernel
theorem dX7_madeOn_14 : decode cX7_madeOn 14 = .ok (.if_icmp .ne 7, 3) := by decide +kernel
theorem dX7_madeOn_17 : decode cX7_madeOn 17 = .ok (.iconst 1, 1) := by decide +kernel
theorem dX7_madeOn_18 : decode cX7_madeOn 18 = .ok (.goto 4, 3) := by decide +kernel
theorem dX7_madeOn_21 : decode cX7_madeOn 21 = .ok (.iconst 0, 1) := by decide +kernel
theorem dX7_madeOn_22 : decode cX7_madeOn 22 = .ok (.istore 4, 2) := by decide +kernel
theorem dX7_madeOn_24 : decode cX7_madeOn 24 = .ok (.iload_n 3, 1) := by decide +kernel
theorem dX7_madeOn_25 : decode cX7_madeOn 25 = .ok (.iconst 2, 1) := by decide +kernel
theorem dX7_madeOn_26 : decode cX7_madeOn 26 = .ok (.if_icmp .ne 7, 3) := by decide +kernel
theorem dX7_madeOn_29 : decode cX7_madeOn 29 = .ok (.iconst 1, 1) := by decide +kernel
theorem dX7_madeOn_30 : decode cX7_madeOn 30 = .ok (.goto 36, 3) := by decide +kernel
theorem dX7_madeOn_33 : decode cX7_madeOn 33 = .ok (.iload_n 3, 1) := by decide +kernel
theorem dX7_madeOn_34 : decode cX7_madeOn 34 = .ok (.iload 4, 2) := by decide +kernel
theorem dX7_madeOn_36 : decode cX7_madeOn 36 = .ok (.ifCond .eq 7, 3) := by decide +kernel
theorem dX7_madeOn_39 : decode cX7_madeOn 39 = .ok (.iconst 1, 1) := by decide +kernel
theorem dX7_madeOn_40 : decode cX7_madeOn 40 = .ok (.goto 4, 3) := by decide +kernel
theorem dX7_madeOn_43 : decode cX7_madeOn 43 = .ok (.iconst 3, 1) := by decide +kernel
theorem dX7_madeOn_44 : decode cX7_madeOn 44 = .ok (.if_icmp .eq 17, 3) := by decide +kernel
theorem dX7_madeOn_47 : decode cX7_madeOn 47 = .ok (.iload_n 3, 1) := by decide +kernel
theorem dX7_madeOn_48 : decode cX7_madeOn 48 = .ok (.iload 4, 2) := by decide +kernel
theorem dX7_madeOn_50 : decode cX7_madeOn 50 = .ok (.ifCond .eq 7, 3) := by decide +kernel
theorem dX7_madeOn_53 : decode cX7_madeOn 53 = .ok (.iconst 4, 1) := by decide +kernel
theorem dX7_madeOn_54 : decode cX7_madeOn 54 = .ok (.goto 4, 3) := by decide +kernel
theorem dX7_madeOn_57 : decode cX7_madeOn 57 = .ok (.iconst 5, 1) := by decide +kernel
theorem dX7_madeOn_58 : decode cX7_madeOn 58 = .ok (.if_icmp .ne 7, 3) := by decide +kernel
theorem dX7_madeOn_61 : decode cX7_madeOn 61 = .ok (.iconst 2, 1) := by decide +kernel
theorem dX7_madeOn_62 : decode cX7_madeOn 62 = .ok (.goto 4, 3) := by decide +kernel
theorem dX7_madeOn_65 : decode cX7_madeOn 65 = .ok (.iconst 0, 1) := by decide +kernel
theorem dX7_madeOn_66 : decode cX7_madeOn 66 = .ok (.ireturn, 1) := by decide +kernel
theorem dX7_playedIn_0 : decode cX7_playedIn 0 = .ok (.aload_n 0, 1) := by decide +kernel
theorem dX7_playedIn_1 : decode cX7_playedIn 1 = .ok (.iload_n 1, 1) := by decide +kernel
theorem dX7_playedIn_2 : decode cX7_playedIn 2 = .ok (.iload_n 2, 1) := by decide +kernel
theorem dX7_playedIn_3 : decode cX7_playedIn 3 = .ok (.invokevirtual 95, 3) := by decide +kernel
theorem dX7_playedIn_6 : decode cX7_playedIn 6 = .ok (.istore_n 3, 1) := by decide +kernel
theorem dX7_playedIn_7 : decode cX7_playedIn 7 = .ok (.iload_n 3, 1) := by decide +kernel
theorem dX7_playedIn_8 : decode cX7_playedIn 8 = .ok (.ifCond .lt 32, 3) := by decide +kernel
theorem dX7_playedIn_11 : decode cX7_playedIn 11 = .ok (.iload_n 2, 1) := by decide +kernel
theorem dX7_playedIn_12 : decode cX7_playedIn 12 = .ok (.aload_n 0, 1) := by decide +kernel
theorem dX7_playedIn_13 : decode cX7_playedIn 13 = .ok (.invokevirtual 99, 3) := by decide +kernel
theorem dX7_playedIn_16 : decode cX7_playedIn 16 = .ok (.if_icmp .ge 24, 3) := by decide +kernel
theorem dX7_playedIn_19 : decode cX7_playedIn 19 = .ok (.aload_n 0, 1) := by decide +kernel
theorem dX7_playedIn_20 : decode cX7_playedIn 20 = .ok (.getfield 28, 3) := by decide +kernel
theorem dX7_playedIn_23 : decode cX7_playedIn 23 = .ok (.iload_n 3, 1) := by decide +kernel
theorem dX7_playedIn_24 : decode cX7_playedIn 24 = .ok (.iaload, 1) := by decide +kernel
theorem dX7_playedIn_25 : decode cX7_playedIn 25 = .ok (.i2l, 1) := by decide +kernel
theorem dX7_playedIn_26 : decode cX7_playedIn 26 = .ok (.lconst 1, 1) := by decide +kernel
theorem dX7_playedIn_27 : decode cX7_playedIn 27 = .ok (.ldc2_w 103, 3) := by decide +kernel
theorem dX7_playedIn_30 : decode cX7_playedIn 30 = .ok (.invokestatic 81, 3) := by decide +kernel
theorem dX7_playedIn_33 : decode cX7_playedIn 33 = .ok (.ifCond .eq 7, 3) := by decide +kernel
theorem dX7_playedIn_36 : decode cX7_playedIn 36 = .ok (.iload_n 3, 1) := by decide +kernel
theorem dX7_playedIn_37 : decode cX7_playedIn 37 = .ok (.goto 4, 3) := by decide +kernel
theorem dX7_playedIn_40 : decode cX7_playedIn 40 = .ok (.iconst (-1), 1) := by decide +kernel
theorem dX7_playedIn_41 : decode cX7_playedIn 41 = .ok (.ireturn, 1) := by decide +kernel
theorem dX7_madeIn_0 : decode cX7_madeIn 0 = .ok (.aload_n 0, 1) := by decide +kernel
theorem dX7_madeIn_1 : decode cX7_madeIn 1 = .ok (.iload_n 1, 1) := by decide +kernel
theorem dX7_madeIn_2 : decode cX7_madeIn 2 = .ok (.iload_n 2, 1) := by decide +kernel
theorem dX7_madeIn_3 : decode cX7_madeIn 3 = .ok (.invokevirtual 95, 3) := by decide +kernel
theorem dX7_madeIn_6 : decode cX7_madeIn 6 = .ok (.istore_n 3, 1) := by decide +kernel
theorem dX7_madeIn_7 : decode cX7_madeIn 7 = .ok (.aload_n 0, 1) := by decide +kernel
theorem dX7_madeIn_8 : decode cX7_madeIn 8 = .ok (.getfield 19, 3) := by decide +kernel
theorem dX7_madeIn_11 : decode cX7_madeIn 11 = .ok (.iload_n 2, 1) := by decide +kernel
theorem dX7_madeIn_12 : decode cX7_madeIn 12 = .ok (.iaload, 1) := by decide +kernel
theorem dX7_madeIn_13 : decode cX7_madeIn 13 = .ok (.iload_n 1, 1) := by decide +kernel
theorem dX7_madeIn_14 : decode cX7_madeIn 14 = .ok (.if_icmp .ne 7, 3) := by decide +kernel
theorem dX7_madeIn_17 : decode cX7_madeIn 17 = .ok (.iconst 2, 1) := by decide +kernel
theorem dX7_madeIn_18 : decode cX7_madeIn 18 = .ok (.goto 17, 3) := by decide +kernel
theorem dX7_madeIn_21 : decode cX7_madeIn 21 = .ok (.iload_n 3, 1) := by decide +kernel
theorem dX7_madeIn_22 : decode cX7_madeIn 22 = .ok (.ifCond .lt 12, 3) := by decide +kernel
theorem dX7_madeIn_25 : decode cX7_madeIn 25 = .ok (.aload_n 0, 1) := by decide +kernel
theorem dX7_madeIn_26 : decode cX7_madeIn 26 = .ok (.iload_n 3, 1) := by decide +kernel
theorem dX7_madeIn_27 : decode cX7_madeIn 27 = .ok (.iload_n 1, 1) := by decide +kernel
theorem dX7_madeIn_28 : decode cX7_madeIn 28 = .ok (.invokevirtual 105, 3) := by decide +kernel
theorem dX7_madeIn_31 : decode cX7_madeIn 31 = .ok (.goto 4, 3) := by decide +kernel
theorem dX7_madeIn_34 : decode cX7_madeIn 34 = .ok (.iconst 0, 1) := by decide +kernel
theorem dX7_madeIn_35 : decode cX7_madeIn 35 = .ok (.ireturn, 1) := by decide +kernel
theorem dX7_pointsBehind_0 : decode cX7_pointsBehind 0 = .ok (.iconst 0, 1) := by decide +kernel
theorem dX7_pointsBehind_1 : decode cX7_pointsBehind 1 = .ok (.istore_n 3, 1) := by decide +kernel
theorem dX7_pointsBehind_2 : decode cX7_pointsBehind 2 = .ok (.iconst 0, 1) := by decide +kernel
theorem dX7_pointsBehind_3 : decode cX7_pointsBehind 3 = .ok (.istore 4, 2) := by decide +kernel
theorem dX7_pointsBehind_5 : decode cX7_pointsBehind 5 = .ok (.iload 4, 2) := by decide +kernel
theorem dX7_pointsBehind_7 : decode cX7_pointsBehind 7 = .ok (.iload_n 2, 1) := by decide +kernel
theorem dX7_pointsBehind_8 : decode cX7_pointsBehind 8 = .ok (.if_icmp .ge 19, 3) := by decide +kernel
theorem dX7_pointsBehind_11 : decode cX7_pointsBehind 11 = .ok (.iload_n 3, 1) := by decide +kernel
theorem dX7_pointsBehind_12 : decode cX7_pointsBehind 12 = .ok (.aload_n 0, 1) := by decide +kernel
theorem dX7_pointsBehind_13 : decode cX7_pointsBehind 13 = .ok (.iload_n 1, 1) := by decide +kernel
theorem dX7_pointsBehind_14 : decode cX7_pointsBehind 14 = .ok (.iload 4, 2) := by decide +kernel
theorem dX7_pointsBehind_16 : decode cX7_pointsBehind 16 = .ok (.invokevirtual 108, 3) := by decide +kernel
theorem dX7_pointsBehind_19 : decode cX7_pointsBehind 19 = .ok (.iadd, 1) := by decide +kernel
theorem dX7_pointsBehind_20 : decode cX7_pointsBehind 20 = .ok (.istore_n 3, 1) := by decide +kernel
theorem dX7_pointsBehind_21 : decode cX7_pointsBehind 21 = .ok (.iinc 4 1, 3) := by decide +kernel
theorem dX7_pointsBehind_24 : decode cX7_pointsBehind 24 = .ok (.goto (-19), 3) := by decide +kernel
theorem dX7_pointsBehind_27 : decode cX7_pointsBehind 27 = .ok (.iload_n 3, 1) := by decide +kernel
theorem dX7_pointsBehind_28 : decode cX7_pointsBehind 28 = .ok (.ireturn, 1) := by decide +kernel
theorem dX7_pointsOf_0 : decode cX7_pointsOf 0 = .ok (.aload_n 0, 1) := by decide +kernel
theorem dX7_pointsOf_1 : decode cX7_pointsOf 1 = .ok (.iload_n 1, 1) := by decide +kernel
theorem dX7_pointsOf_2 : decode cX7_pointsOf 2 = .ok (.aload_n 0, 1) := by decide +kernel
theorem dX7_pointsOf_3 : decode cX7_pointsOf 3 = .ok (.invokevirtual 99, 3) := by decide +kernel
theorem dX7_pointsOf_6 : decode cX7_pointsOf 6 = .ok (.invokevirtual 111, 3) := by decide +kernel
theorem dX7_pointsOf_9 : decode cX7_pointsOf 9 = .ok (.ireturn, 1) := by decide +kernel
theorem dX7_metIn_0 : decode cX7_metIn 0 = .ok (.bipush (-5), 2) := by decide +kernel
theorem dX7_metIn_2 : decode cX7_metIn 2 = .ok (.istore_n 3, 1) := by decide +kernel
theorem dX7_metIn_3 : decode cX7_metIn 3 = .ok (.iconst 0, 1) := by decide +kernel
theorem dX7_metIn_4 : decode cX7_metIn 4 = .ok (.istore 4, 2) := by decide +kernel
theorem dX7_metIn_6 : decode cX7_metIn 6 = .ok (.iload 4, 2) := by decide +kernel
theorem dX7_metIn_8 : decode cX7_metIn 8 = .ok (.aload_n 0, 1) := by decide +kernel
theorem dX7_metIn_9 : decode cX7_metIn 9 = .ok (.invokevirtual 99, 3) := by decide +kernel
theorem dX7_metIn_12 : decode cX7_metIn 12 = .ok (.if_icmp .ge 41, 3) := by decide +kernel
theorem dX7_metIn_15 : decode cX7_metIn 15 = .ok (.aload_n 0, 1) := by decide +kernel
theorem dX7_metIn_16 : decode cX7_metIn 16 = .ok (.iload_n 1, 1) := by decide +kernel
theorem dX7_metIn_17 : decode cX7_metIn 17 = .ok (.iload 4, 2) := by decide +kernel
theorem dX7_metIn_19 : decode cX7_metIn 19 = .ok (.invokevirtual 114, 3) := by decide +kernel
theorem dX7_metIn_22 : decode cX7_metIn 22 = .ok (.istore 5, 2) := by decide +kernel
theorem dX7_metIn_24 : decode cX7_metIn 24 = .ok (.iload 5, 2) := by decide +kernel
theorem dX7_metIn_26 : decode cX7_metIn 26 = .ok (.ifCond .lt 19, 3) := by decide +kernel
theorem dX7_metIn_29 : decode cX7_metIn 29 = .ok (.aload_n 0, 1) := by decide +kernel
theorem dX7_metIn_30 : decode cX7_metIn 30 = .ok (.iload 5, 2) := by decide +kernel
theorem dX7_metIn_32 : decode cX7_metIn 32 = .ok (.iload_n 1, 1) := by decide +kernel
theorem dX7_metIn_33 : decode cX7_metIn 33 = .ok (.invokevirtual 117, 3) := by decide +kernel
theorem dX7_metIn_36 : decode cX7_metIn 36 = .ok (.iload_n 2, 1) := by decide +kernel
theorem dX7_metIn_37 : decode cX7_metIn 37 = .ok (.if_icmp .ne 8, 3) := by decide +kernel
theorem dX7_metIn_40 : decode cX7_metIn 40 = .ok (.iload 4, 2) := by decide +kernel
theorem dX7_metIn_42 : decode cX7_metIn 42 = .ok (.goto 4, 3) := by decide +kernel
theorem dX7_metIn_45 : decode cX7_metIn 45 = .ok (.iload_n 3, 1) := by decide +kernel
theorem dX7_metIn_46 : decode cX7_metIn 46 = .ok (.istore_n 3, 1) := by decide +kernel
theorem dX7_metIn_47 : decode cX7_metIn 47 = .ok (.iinc 4 1, 3) := by decide +kernel
theorem dX7_metIn_50 : decode cX7_metIn 50 = .ok (.goto (-44), 3) := by decide +kernel
theorem dX7_metIn_53 : decode cX7_metIn 53 = .ok (.iload_n 3, 1) := by decide +kernel
theorem dX7_metIn_54 : decode cX7_metIn 54 = .ok (.ireturn, 1) := by decide +kernel
theorem dX7_playedMany_0 : decode cX7_playedMany 0 = .ok (.iconst 0, 1) := by decide +kernel
theorem dX7_playedMany_1 : decode cX7_playedMany 1 = .ok (.istore_n 2, 1) := by decide +kernel
theorem dX7_playedMany_2 : decode cX7_playedMany 2 = .ok (.iconst 0, 1) := by decide +kernel
theorem dX7_playedMany_3 : decode cX7_playedMany 3 = .ok (.istore_n 3, 1) := by decide +kernel
theorem dX7_playedMany_4 : decode cX7_playedMany 4 = .ok (.iload_n 3, 1) := by decide +kernel
theorem dX7_playedMany_5 : decode cX7_playedMany 5 = .ok (.aload_n 0, 1) := by decide +kernel
theorem dX7_playedMany_6 : decode cX7_playedMany 6 = .ok (.invokevirtual 99, 3) := by decide +kernel
theorem dX7_playedMany_9 : decode cX7_playedMany 9 = .ok (.if_icmp .ge 26, 3) := by decide +kernel
theorem dX7_playedMany_12 : decode cX7_playedMany 12 = .ok (.iload_n 2, 1) := by decide +kernel
theorem dX7_playedMany_13 : decode cX7_playedMany 13 = .ok (.aload_n 0, 1) := by decide +kernel
theorem dX7_playedMany_14 : decode cX7_playedMany 14 = .ok (.iload_n 1, 1) := by decide +kernel
theorem dX7_playedMany_15 : decode cX7_playedMany 15 = .ok (.iload_n 3, 1) := by decide +kernel
theorem dX7_playedMany_16 : decode cX7_playedMany 16 = .ok (.invokevirtual 114, 3) := by decide +kernel
theorem dX7_playedMany_19 : decode cX7_playedMany 19 = .ok (.ifCond .lt 7, 3) := by decide +kernel
theorem dX7_playedMany_22 : decode cX7_playedMany 22 = .ok (.iconst 1, 1) := by decide +kernel
theorem dX7_playedMany_23 : decode cX7_playedMany 23 = .ok (.goto 4, 3) := by decide +kernel
theorem dX7_playedMany_26 : decode cX7_playedMany 26 = .ok (.iconst 0, 1) := by decide +kernel
theorem dX7_playedMany_27 : decode cX7_playedMany 27 = .ok (.iadd, 1) := by decide +kernel
theorem dX7_playedMany_28 : decode cX7_playedMany 28 = .ok (.istore_n 2, 1) := by decide +kernel
theorem dX7_playedMany_29 : decode cX7_playedMany 29 = .ok (.iinc 3 1, 3) := by decide +kernel
theorem dX7_playedMany_32 : decode cX7_playedMany 32 = .ok (.goto (-28), 3) := by decide +kernel
theorem dX7_playedMany_35 : decode cX7_playedMany 35 = .ok (.iload_n 2, 1) := by decide +kernel
theorem dX7_playedMany_36 : decode cX7_playedMany 36 = .ok (.ireturn, 1) := by decide +kernel
theorem dX7_blacksOf_0 : decode cX7_blacksOf 0 = .ok (.iconst 0, 1) := by decide +kernel
theorem dX7_blacksOf_1 : decode cX7_blacksOf 1 = .ok (.istore_n 2, 1) := by decide +kernel
theorem dX7_blacksOf_2 : decode cX7_blacksOf 2 = .ok (.iconst 0, 1) := by decide +kernel
theorem dX7_blacksOf_3 : decode cX7_blacksOf 3 = .ok (.istore_n 3, 1) := by decide +kernel
theorem dX7_blacksOf_4 : decode cX7_blacksOf 4 = .ok (.iload_n 3, 1) := by decide +kernel
theorem dX7_blacksOf_5 : decode cX7_blacksOf 5 = .ok (.aload_n 0, 1) := by decide +kernel
theorem dX7_blacksOf_6 : decode cX7_blacksOf 6 = .ok (.invokevirtual 99, 3) := by decide +kernel
theorem dX7_blacksOf_9 : decode cX7_blacksOf 9 = .ok (.if_icmp .ge 41, 3) := by decide +kernel
theorem dX7_blacksOf_12 : decode cX7_blacksOf 12 = .ok (.iload_n 2, 1) := by decide +kernel
theorem dX7_blacksOf_13 : decode cX7_blacksOf 13 = .ok (.aload_n 0, 1) := by decide +kernel
theorem dX7_blacksOf_14 : decode cX7_blacksOf 14 = .ok (.iload_n 1, 1) := by decide +kernel
theorem dX7_blacksOf_15 : decode cX7_blacksOf 15 = .ok (.iload_n 3, 1) := by decide +kernel
theorem dX7_blacksOf_16 : decode cX7_blacksOf 16 = .ok (.invokevirtual 114, 3) := by decide +kernel
theorem dX7_blacksOf_19 : decode cX7_blacksOf 19 = .ok (.ifCond .lt 22, 3) := by decide +kernel
theorem dX7_blacksOf_22 : decode cX7_blacksOf 22 = .ok (.aload_n 0, 1) := by decide +kernel
theorem dX7_blacksOf_23 : decode cX7_blacksOf 23 = .ok (.getfield 25, 3) := by decide +kernel
theorem dX7_blacksOf_26 : decode cX7_blacksOf 26 = .ok (.aload_n 0, 1) := by decide +kernel
theorem dX7_blacksOf_27 : decode cX7_blacksOf 27 = .ok (.iload_n 1, 1) := by decide +kernel
theorem dX7_blacksOf_28 : decode cX7_blacksOf 28 = .ok (.iload_n 3, 1) := by decide +kernel
theorem dX7_blacksOf_29 : decode cX7_blacksOf 29 = .ok (.invokevirtual 114, 3) := by decide +kernel
theorem dX7_blacksOf_32 : decode cX7_blacksOf 32 = .ok (.iaload, 1) := by decide +kernel
theorem dX7_blacksOf_33 : decode cX7_blacksOf 33 = .ok (.iload_n 1, 1) := by decide +kernel
theorem dX7_blacksOf_34 : decode cX7_blacksOf 34 = .ok (.if_icmp .ne 7, 3) := by decide +kernel
theorem dX7_blacksOf_37 : decode cX7_blacksOf 37 = .ok (.iconst 1, 1) := by decide +kernel
theorem dX7_blacksOf_38 : decode cX7_blacksOf 38 = .ok (.goto 4, 3) := by decide +kernel
theorem dX7_blacksOf_41 : decode cX7_blacksOf 41 = .ok (.iconst 0, 1) := by decide +kernel
theorem dX7_blacksOf_42 : decode cX7_blacksOf 42 = .ok (.iadd, 1) := by decide +kernel
theorem dX7_blacksOf_43 : decode cX7_blacksOf 43 = .ok (.istore_n 2, 1) := by decide +kernel
theorem dX7_blacksOf_44 : decode cX7_blacksOf 44 = .ok (.iinc 3 1, 3) := by decide +kernel
theorem dX7_blacksOf_47 : decode cX7_blacksOf 47 = .ok (.goto (-43), 3) := by decide +kernel
theorem dX7_blacksOf_50 : decode cX7_blacksOf 50 = .ok (.iload_n 2, 1) := by decide +kernel
theorem dX7_blacksOf_51 : decode cX7_blacksOf 51 = .ok (.ireturn, 1) := by decide +kernel
theorem dX7_balanceOf_0 : decode cX7_balanceOf 0 = .ok (.aload_n 0, 1) := by decide +kernel
theorem dX7_balanceOf_1 : decode cX7_balanceOf 1 = .ok (.iload_n 1, 1) := by decide +kernel
theorem dX7_balanceOf_2 : decode cX7_balanceOf 2 = .ok (.invokevirtual 120, 3) := by decide +kernel
theorem dX7_balanceOf_5 : decode cX7_balanceOf 5 = .ok (.iconst 2, 1) := by decide +kernel
theorem dX7_balanceOf_6 : decode cX7_balanceOf 6 = .ok (.aload_n 0, 1) := by decide +kernel
theorem dX7_balanceOf_7 : decode cX7_balanceOf 7 = .ok (.iload_n 1, 1) := by decide +kernel
theorem dX7_balanceOf_8 : decode cX7_balanceOf 8 = .ok (.invokevirtual 124, 3) := by decide +kernel
theorem dX7_balanceOf_11 : decode cX7_balanceOf 11 = .ok (.imul, 1) := by decide +kernel
theorem dX7_balanceOf_12 : decode cX7_balanceOf 12 = .ok (.isub, 1) := by decide +kernel
theorem dX7_balanceOf_13 : decode cX7_balanceOf 13 = .ok (.ireturn, 1) := by decide +kernel
theorem dX7_latestOf_0 : decode cX7_latestOf 0 = .ok (.bipush (-5), 2) := by decide +kernel
theorem dX7_latestOf_2 : decode cX7_latestOf 2 = .ok (.istore_n 2, 1) := by decide +kernel
theorem dX7_latestOf_3 : decode cX7_latestOf 3 = .ok (.iconst 0, 1) := by decide +kernel
theorem dX7_latestOf_4 : decode cX7_latestOf 4 = .ok (.istore_n 3, 1) := by decide +kernel
theorem dX7_latestOf_5 : decode cX7_latestOf 5 = .ok (.iload_n 3, 1) := by decide +kernel
theorem dX7_latestOf_6 : decode cX7_latestOf 6 = .ok (.aload_n 0, 1) := by decide +kernel
theorem dX7_latestOf_7 : decode cX7_latestOf 7 = .ok (.invokevirtual 99, 3) := by decide +kernel
theorem dX7_latestOf_10 : decode cX7_latestOf 10 = .ok (.if_icmp .ge 43, 3) := by decide +kernel
theorem dX7_latestOf_13 : decode cX7_latestOf 13 = .ok (.aload_n 0, 1) := by decide +kernel
theorem dX7_latestOf_14 : decode cX7_latestOf 14 = .ok (.iload_n 1, 1) := by decide +kernel
theorem dX7_latestOf_15 : decode cX7_latestOf 15 = .ok (.iload_n 3, 1) := by decide +kernel
theorem dX7_latestOf_16 : decode cX7_latestOf 16 = .ok (.invokevirtual 114, 3) := by decide +kernel
theorem dX7_latestOf_19 : decode cX7_latestOf 19 = .ok (.istore 4, 2) := by decide +kernel
theorem dX7_latestOf_21 : decode cX7_latestOf 21 = .ok (.iload 4, 2) := by decide +kernel
theorem dX7_latestOf_23 : decode cX7_latestOf 23 = .ok (.ifCond .ge 7, 3) := by decide +kernel
theorem dX7_latestOf_26 : decode cX7_latestOf 26 = .ok (.iload_n 2, 1) := by decide +kernel
theorem dX7_latestOf_27 : decode cX7_latestOf 27 = .ok (.goto 19, 3) := by decide +kernel
theorem dX7_latestOf_30 : decode cX7_latestOf 30 = .ok (.aload_n 0, 1) := by decide +kernel
theorem dX7_latestOf_31 : decode cX7_latestOf 31 = .ok (.getfield 22, 3) := by decide +kernel
theorem dX7_latestOf_34 : decode cX7_latestOf 34 = .ok (.iload 4, 2) := by decide +kernel
theorem dX7_latestOf_36 : decode cX7_latestOf 36 = .ok (.iaload, 1) := by decide +kernel
theorem dX7_latestOf_37 : decode cX7_latestOf 37 = .ok (.iload_n 1, 1) := by decide +kernel
theorem dX7_latestOf_38 : decode cX7_latestOf 38 = .ok (.if_icmp .ne 7, 3) := by decide +kernel
theorem dX7_latestOf_41 : decode cX7_latestOf 41 = .ok (.iconst 0, 1) := by decide +kernel
theorem dX7_latestOf_42 : decode cX7_latestOf 42 = .ok (.goto 4, 3) := by decide +kernel
theorem dX7_latestOf_45 : decode cX7_latestOf 45 = .ok (.iconst 1, 1) := by decide +kernel
theorem dX7_latestOf_46 : decode cX7_latestOf 46 = .ok (.istore_n 2, 1) := by decide +kernel
theorem dX7_latestOf_47 : decode cX7_latestOf 47 = .ok (.iinc 3 1, 3) := by decide +kernel
theorem dX7_latestOf_50 : decode cX7_latestOf 50 = .ok (.goto (-45), 3) := by decide +kernel
theorem dX7_latestOf_53 : decode cX7_latestOf 53 = .ok (.iload_n 2, 1) := by decide +kernel
theorem dX7_latestOf_54 : decode cX7_latestOf 54 = .ok (.ireturn, 1) := by decide +kernel
theorem dX7_byesOf_0 : decode cX7_byesOf 0 = .ok (.iconst 0, 1) := by decide +kernel
theorem dX7_byesOf_1 : decode cX7_byesOf 1 = .ok (.istore_n 2, 1) := by decide +kernel
theorem dX7_byesOf_2 : decode cX7_byesOf 2 = .ok (.iconst 0, 1) := by decide +kernel
theorem dX7_byesOf_3 : decode cX7_byesOf 3 = .ok (.istore_n 3, 1) := by decide +kernel
theorem dX7_byesOf_4 : decode cX7_byesOf 4 = .ok (.iload_n 3, 1) := by decide +kernel
theorem dX7_byesOf_5 : decode cX7_byesOf 5 = .ok (.aload_n 0, 1) := by decide +kernel
theorem dX7_byesOf_6 : decode cX7_byesOf 6 = .ok (.invokevirtual 99, 3) := by decide +kernel
theorem dX7_byesOf_9 : decode cX7_byesOf 9 = .ok (.if_icmp .ge 27, 3) := by decide +kernel
theorem dX7_byesOf_12 : decode cX7_byesOf 12 = .ok (.iload_n 2, 1) := by decide +kernel
theorem dX7_byesOf_13 : decode cX7_byesOf 13 = .ok (.aload_n 0, 1) := by decide +kernel
theorem dX7_byesOf_14 : decode cX7_byesOf 14 = .ok (.getfield 19, 3) := by decide +kernel
theorem dX7_byesOf_17 : decode cX7_byesOf 17 = .ok (.iload_n 3, 1) := by decide +kernel
theorem dX7_byesOf_18 : decode cX7_byesOf 18 = .ok (.iaload, 1) := by decide +kernel
theorem dX7_byesOf_19 : decode cX7_byesOf 19 = .ok (.iload_n 1, 1) := by decide +kernel
theorem dX7_byesOf_20 : decode cX7_byesOf 20 = .ok (.if_icmp .ne 7, 3) := by decide +kernel
theorem dX7_byesOf_23 : decode cX7_byesOf 23 = .ok (.iconst 1, 1) := by decide +kernel
theorem dX7_byesOf_24 : decode cX7_byesOf 24 = .ok (.goto 4, 3) := by decide +kernel
theorem dX7_byesOf_27 : decode cX7_byesOf 27 = .ok (.iconst 0, 1) := by decide +kernel
theorem dX7_byesOf_28 : decode cX7_byesOf 28 = .ok (.iadd, 1) := by decide +kernel
theorem dX7_byesOf_29 : decode cX7_byesOf 29 = .ok (.istore_n 2, 1) := by decide +kernel
theorem dX7_byesOf_30 : decode cX7_byesOf 30 = .ok (.iinc 3 1, 3) := by decide +kernel
theorem dX7_byesOf_33 : decode cX7_byesOf 33 = .ok (.goto (-29), 3) := by decide +kernel
theorem dX7_byesOf_36 : decode cX7_byesOf 36 = .ok (.iload_n 2, 1) := by decide +kernel
theorem dX7_byesOf_37 : decode cX7_byesOf 37 = .ok (.ireturn, 1) := by decide +kernel
theorem dX7_forfeitsOf_0 : decode cX7_forfeitsOf 0 = .ok (.iconst 0, 1) := by decide +kernel
theorem dX7_forfeitsOf_1 : decode cX7_forfeitsOf 1 = .ok (.istore_n 2, 1) := by decide +kernel
theorem dX7_forfeitsOf_2 : decode cX7_forfeitsOf 2 = .ok (.iconst 0, 1) := by decide +kernel
theorem dX7_forfeitsOf_3 : decode cX7_forfeitsOf 3 = .ok (.istore_n 3, 1) := by decide +kernel
theorem dX7_forfeitsOf_4 : decode cX7_forfeitsOf 4 = .ok (.iload_n 3, 1) := by decide +kernel
theorem dX7_forfeitsOf_5 : decode cX7_forfeitsOf 5 = .ok (.aload_n 0, 1) := by decide +kernel
theorem dX7_forfeitsOf_6 : decode cX7_forfeitsOf 6 = .ok (.invokevirtual 99, 3) := by decide +kernel
theorem dX7_forfeitsOf_9 : decode cX7_forfeitsOf 9 = .ok (.if_icmp .ge 56, 3) := by decide +kernel
theorem dX7_forfeitsOf_12 : decode cX7_forfeitsOf 12 = .ok (.aload_n 0, 1) := by decide +kernel
theorem dX7_forfeitsOf_13 : decode cX7_forfeitsOf 13 = .ok (.iload_n 1, 1) := by decide +kernel
theorem dX7_forfeitsOf_14 : decode cX7_forfeitsOf 14 = .ok (.iload_n 3, 1) := by decide +kernel
theorem dX7_forfeitsOf_15 : decode cX7_forfeitsOf 15 = .ok (.invokevirtual 95, 3) := by decide +kernel
theorem dX7_forfeitsOf_18 : decode cX7_forfeitsOf 18 = .ok (.istore 4, 2) := by decide +kernel
theorem dX7_forfeitsOf_20 : decode cX7_forfeitsOf 20 = .ok (.iload_n 2, 1) := by decide +kernel
theorem dX7_forfeitsOf_21 : decode cX7_forfeitsOf 21 = .ok (.iload 4, 2) := by decide +kernel
theorem dX7_forfeitsOf_23 : decode cX7_forfeitsOf 23 = .ok (.ifCond .lt 33, 3) := by decide +kernel
theorem dX7_forfeitsOf_26 : decode cX7_forfeitsOf 26 = .ok (.aload_n 0, 1) := by decide +kernel
theorem dX7_forfeitsOf_27 : decode cX7_forfeitsOf 27 = .ok (.getfield 28, 3) := by decide +kernel
theorem dX7_forfeitsOf_30 : decode cX7_forfeitsOf 30 = .ok (.iload 4, 2) := by decide +kernel
theorem dX7_forfeitsOf_32 : decode cX7_forfeitsOf 32 = .ok (.iaload, 1) := by decide +kernel
theorem dX7_forfeitsOf_33 : decode cX7_forfeitsOf 33 = .ok (.aload_n 0, 1) := by decide +kernel
theorem dX7_forfeitsOf_34 : decode cX7_forfeitsOf 34 = .ok (.getfield 22, 3) := by decide +kernel
theorem dX7_forfeitsOf_37 : decode cX7_forfeitsOf 37 = .ok (.iload 4, 2) := by decide +kernel
theorem dX7_forfeitsOf_39 : decode cX7_forfeitsOf 39 = .ok (.iaload, 1) := by decide +kernel
theorem dX7_forfeitsOf_40 : decode cX7_forfeitsOf 40 = .ok (.iload_n 1, 1) := by decide +kernel
theorem dX7_forfeitsOf_41 : decode cX7_forfeitsOf 41 = .ok (.if_icmp .ne 7, 3) := by decide +kernel
theorem dX7_forfeitsOf_44 : decode cX7_forfeitsOf 44 = .ok (.iconst 4, 1) := by decide +kernel
theorem dX7_forfeitsOf_45 : decode cX7_forfeitsOf 45 = .ok (.goto 4, 3) := by decide +kernel
theorem dX7_forfeitsOf_48 : decode cX7_forfeitsOf 48 = .ok (.iconst 5, 1) := by decide +kernel
theorem dX7_forfeitsOf_49 : decode cX7_forfeitsOf 49 = .ok (.if_icmp .ne 7, 3) := by decide +kernel
theorem dX7_forfeitsOf_52 : decode cX7_forfeitsOf 52 = .ok (.iconst 1, 1) := by decide +kernel
theorem dX7_forfeitsOf_53 : decode cX7_forfeitsOf 53 = .ok (.goto 4, 3) := by decide +kernel
theorem dX7_forfeitsOf_56 : decode cX7_forfeitsOf 56 = .ok (.iconst 0, 1) := by decide +kernel
theorem dX7_forfeitsOf_57 : decode cX7_forfeitsOf 57 = .ok (.iadd, 1) := by decide +kernel
theorem dX7_forfeitsOf_58 : decode cX7_forfeitsOf 58 = .ok (.istore_n 2, 1) := by decide +kernel
theorem dX7_forfeitsOf_59 : decode cX7_forfeitsOf 59 = .ok (.iinc 3 1, 3) := by decide +kernel
theorem dX7_forfeitsOf_62 : decode cX7_forfeitsOf 62 = .ok (.goto (-58), 3) := by decide +kernel
theorem dX7_forfeitsOf_65 : decode cX7_forfeitsOf 65 = .ok (.iload_n 2, 1) := by decide +kernel
theorem dX7_forfeitsOf_66 : decode cX7_forfeitsOf 66 = .ok (.ireturn, 1) := by decide +kernel
theorem dX7_opponentsOf_0 : decode cX7_opponentsOf 0 = .ok (.iconst 0, 1) := by decide +kernel
theorem dX7_opponentsOf_1 : decode cX7_opponentsOf 1 = .ok (.istore_n 3, 1) := by decide +kernel
theorem dX7_opponentsOf_2 : decode cX7_opponentsOf 2 = .ok (.ldc 127, 2) := by decide +kernel
theorem dX7_opponentsOf_4 : decode cX7_opponentsOf 4 = .ok (.istore 4, 2) := by decide +kernel
theorem dX7_opponentsOf_6 : decode cX7_opponentsOf 6 = .ok (.iconst 0, 1) := by decide +kernel
theorem dX7_opponentsOf_7 : decode cX7_opponentsOf 7 = .ok (.istore 5, 2) := by decide +kernel
theorem dX7_opponentsOf_9 : decode cX7_opponentsOf 9 = .ok (.iload 5, 2) := by decide +kernel
theorem dX7_opponentsOf_11 : decode cX7_opponentsOf 11 = .ok (.aload_n 0, 1) := by decide +kernel
theorem dX7_opponentsOf_12 : decode cX7_opponentsOf 12 = .ok (.invokevirtual 99, 3) := by decide +kernel
theorem dX7_opponentsOf_15 : decode cX7_opponentsOf 15 = .ok (.if_icmp .ge 66, 3) := by decide +kernel
theorem dX7_opponentsOf_18 : decode cX7_opponentsOf 18 = .ok (.aload_n 0, 1) := by decide +kernel
theorem dX7_opponentsOf_19 : decode cX7_opponentsOf 19 = .ok (.iload_n 1, 1) := by decide +kernel
theorem dX7_opponentsOf_20 : decode cX7_opponentsOf 20 = .ok (.iload 5, 2) := by decide +kernel
theorem dX7_opponentsOf_22 : decode cX7_opponentsOf 22 = .ok (.invokevirtual 114, 3) := by decide +kernel
theorem dX7_opponentsOf_25 : decode cX7_opponentsOf 25 = .ok (.istore 6, 2) := by decide +kernel
theorem dX7_opponentsOf_27 : decode cX7_opponentsOf 27 = .ok (.iload 6, 2) := by decide +kernel
theorem dX7_opponentsOf_29 : decode cX7_opponentsOf 29 = .ok (.ifCond .lt 17, 3) := by decide +kernel
theorem dX7_opponentsOf_32 : decode cX7_opponentsOf 32 = .ok (.aload_n 0, 1) := by decide +kernel
theorem dX7_opponentsOf_33 : decode cX7_opponentsOf 33 = .ok (.aload_n 0, 1) := by decide +kernel
theorem dX7_opponentsOf_34 : decode cX7_opponentsOf 34 = .ok (.iload 6, 2) := by decide +kernel
theorem dX7_opponentsOf_36 : decode cX7_opponentsOf 36 = .ok (.iload_n 1, 1) := by decide +kernel
theorem dX7_opponentsOf_37 : decode cX7_opponentsOf 37 = .ok (.invokevirtual 117, 3) := by decide +kernel
theorem dX7_opponentsOf_40 : decode cX7_opponentsOf 40 = .ok (.invokevirtual 128, 3) := by decide +kernel
theorem dX7_opponentsOf_43 : decode cX7_opponentsOf 43 = .ok (.goto 4, 3) := by decide +kernel
theorem dX7_opponentsOf_46 : decode cX7_opponentsOf 46 = .ok (.iconst 0, 1) := by decide +kernel
theorem dX7_opponentsOf_47 : decode cX7_opponentsOf 47 = .ok (.istore 7, 2) := by decide +kernel
theorem dX7_opponentsOf_49 : decode cX7_opponentsOf 49 = .ok (.iload_n 3, 1) := by decide +kernel
theorem dX7_opponentsOf_50 : decode cX7_opponentsOf 50 = .ok (.iload 7, 2) := by decide +kernel
theorem dX7_opponentsOf_52 : decode cX7_opponentsOf 52 = .ok (.iadd, 1) := by decide +kernel
theorem dX7_opponentsOf_53 : decode cX7_opponentsOf 53 = .ok (.istore_n 3, 1) := by decide +kernel
theorem dX7_opponentsOf_54 : decode cX7_opponentsOf 54 = .ok (.iload 6, 2) := by decide +kernel
theorem dX7_opponentsOf_56 : decode cX7_opponentsOf 56 = .ok (.ifCond .lt 15, 3) := by decide +kernel
theorem dX7_opponentsOf_59 : decode cX7_opponentsOf 59 = .ok (.iload 7, 2) := by decide +kernel
theorem dX7_opponentsOf_61 : decode cX7_opponentsOf 61 = .ok (.iload 4, 2) := by decide +kernel
theorem dX7_opponentsOf_63 : decode cX7_opponentsOf 63 = .ok (.if_icmp .ge 8, 3) := by decide +kernel
theorem dX7_opponentsOf_66 : decode cX7_opponentsOf 66 = .ok (.iload 7, 2) := by decide +kernel
theorem dX7_opponentsOf_68 : decode cX7_opponentsOf 68 = .ok (.goto 5, 3) := by decide +kernel
theorem dX7_opponentsOf_71 : decode cX7_opponentsOf 71 = .ok (.iload 4, 2) := by decide +kernel
theorem dX7_opponentsOf_73 : decode cX7_opponentsOf 73 = .ok (.istore 4, 2) := by decide +kernel
theorem dX7_opponentsOf_75 : decode cX7_opponentsOf 75 = .ok (.iinc 5 1, 3) := by decide +kernel
theorem dX7_opponentsOf_78 : decode cX7_opponentsOf 78 = .ok (.goto (-69), 3) := by decide +kernel
theorem dX7_opponentsOf_81 : decode cX7_opponentsOf 81 = .ok (.iload_n 2, 1) := by decide +kernel
theorem dX7_opponentsOf_82 : decode cX7_opponentsOf 82 = .ok (.ifCond .eq 17, 3) := by decide +kernel
theorem dX7_opponentsOf_85 : decode cX7_opponentsOf 85 = .ok (.iload 4, 2) := by decide +kernel
theorem dX7_opponentsOf_87 : decode cX7_opponentsOf 87 = .ok (.ldc 127, 2) := by decide +kernel
theorem dX7_opponentsOf_89 : decode cX7_opponentsOf 89 = .ok (.if_icmp .ge 10, 3) := by decide +kernel
theorem dX7_opponentsOf_92 : decode cX7_opponentsOf 92 = .ok (.iload_n 3, 1) := by decide +kernel
theorem dX7_opponentsOf_93 : decode cX7_opponentsOf 93 = .ok (.iload 4, 2) := by decide +kernel
theorem dX7_opponentsOf_95 : decode cX7_opponentsOf 95 = .ok (.isub, 1) := by decide +kernel
theorem dX7_opponentsOf_96 : decode cX7_opponentsOf 96 = .ok (.goto 4, 3) := by decide +kernel
theorem dX7_opponentsOf_99 : decode cX7_opponentsOf 99 = .ok (.iload_n 3, 1) := by decide +kernel
theorem dX7_opponentsOf_100 : decode cX7_opponentsOf 100 = .ok (.ireturn, 1) := by decide +kernel
theorem dX7_beatenOf_0 : decode cX7_beatenOf 0 = .ok (.iconst 0, 1) := by decide +kernel
theorem dX7_beatenOf_1 : decode cX7_beatenOf 1 = .ok (.istore_n 2, 1) := by decide +kernel
theorem dX7_beatenOf_2 : decode cX7_beatenOf 2 = .ok (.iconst 0, 1) := by decide +kernel
theorem dX7_beatenOf_3 : decode cX7_beatenOf 3 = .ok (.istore_n 3, 1) := by decide +kernel
theorem dX7_beatenOf_4 : decode cX7_beatenOf 4 = .ok (.iload_n 3, 1) := by decide +kernel
theorem dX7_beatenOf_5 : decode cX7_beatenOf 5 = .ok (.aload_n 0, 1) := by decide +kernel
theorem dX7_beatenOf_6 : decode cX7_beatenOf 6 = .ok (.invokevirtual 99, 3) := by decide +kernel
theorem dX7_beatenOf_9 : decode cX7_beatenOf 9 = .ok (.if_icmp .ge 48, 3) := by decide +kernel
theorem dX7_beatenOf_12 : decode cX7_beatenOf 12 = .ok (.aload_n 0, 1) := by decide +kernel
theorem dX7_beatenOf_13 : decode cX7_beatenOf 13 = .ok (.iload_n 1, 1) := by decide +kernel
theorem dX7_beatenOf_14 : decode cX7_beatenOf 14 = .ok (.iload_n 3, 1) := by decide +kernel
theorem dX7_beatenOf_15 : decode cX7_beatenOf 15 = .ok (.invokevirtual 114, 3) := by decide +kernel
theorem dX7_beatenOf_18 : decode cX7_beatenOf 18 = .ok (.istore 4, 2) := by decide +kernel
theorem dX7_beatenOf_20 : decode cX7_beatenOf 20 = .ok (.iload_n 2, 1) := by decide +kernel
theorem dX7_beatenOf_21 : decode cX7_beatenOf 21 = .ok (.iload 4, 2) := by decide +kernel
theorem dX7_beatenOf_23 : decode cX7_beatenOf 23 = .ok (.ifCond .lt 25, 3) := by decide +kernel
theorem dX7_beatenOf_26 : decode cX7_beatenOf 26 = .ok (.aload_n 0, 1) := by decide +kernel
theorem dX7_beatenOf_27 : decode cX7_beatenOf 27 = .ok (.iload 4, 2) := by decide +kernel
theorem dX7_beatenOf_29 : decode cX7_beatenOf 29 = .ok (.iload_n 1, 1) := by decide +kernel
theorem dX7_beatenOf_30 : decode cX7_beatenOf 30 = .ok (.invokevirtual 105, 3) := by decide +kernel
theorem dX7_beatenOf_33 : decode cX7_beatenOf 33 = .ok (.aload_n 0, 1) := by decide +kernel
theorem dX7_beatenOf_34 : decode cX7_beatenOf 34 = .ok (.aload_n 0, 1) := by decide +kernel
theorem dX7_beatenOf_35 : decode cX7_beatenOf 35 = .ok (.iload 4, 2) := by decide +kernel
theorem dX7_beatenOf_37 : decode cX7_beatenOf 37 = .ok (.iload_n 1, 1) := by decide +kernel
theorem dX7_beatenOf_38 : decode cX7_beatenOf 38 = .ok (.invokevirtual 117, 3) := by decide +kernel
theorem dX7_beatenOf_41 : decode cX7_beatenOf 41 = .ok (.invokevirtual 128, 3) := by decide +kernel
theorem dX7_beatenOf_44 : decode cX7_beatenOf 44 = .ok (.imul, 1) := by decide +kernel
theorem dX7_beatenOf_45 : decode cX7_beatenOf 45 = .ok (.goto 4, 3) := by decide +kernel
theorem dX7_beatenOf_48 : decode cX7_beatenOf 48 = .ok (.iconst 0, 1) := by decide +kernel
theorem dX7_beatenOf_49 : decode cX7_beatenOf 49 = .ok (.iadd, 1) := by decide +kernel
theorem dX7_beatenOf_50 : decode cX7_beatenOf 50 = .ok (.istore_n 2, 1) := by decide +kernel
theorem dX7_beatenOf_51 : decode cX7_beatenOf 51 = .ok (.iinc 3 1, 3) := by decide +kernel
theorem dX7_beatenOf_54 : decode cX7_beatenOf 54 = .ok (.goto (-50), 3) := by decide +kernel
theorem dX7_beatenOf_57 : decode cX7_beatenOf 57 = .ok (.iload_n 2, 1) := by decide +kernel
theorem dX7_beatenOf_58 : decode cX7_beatenOf 58 = .ok (.ireturn, 1) := by decide +kernel
theorem dX7_winsOf_0 : decode cX7_winsOf 0 = .ok (.iconst 0, 1) := by decide +kernel
theorem dX7_winsOf_1 : decode cX7_winsOf 1 = .ok (.istore_n 2, 1) := by decide +kernel
theorem dX7_winsOf_2 : decode cX7_winsOf 2 = .ok (.iconst 0, 1) := by decide +kernel
theorem dX7_winsOf_3 : decode cX7_winsOf 3 = .ok (.istore_n 3, 1) := by decide +kernel
theorem dX7_winsOf_4 : decode cX7_winsOf 4 = .ok (.iload_n 3, 1) := by decide +kernel
theorem dX7_winsOf_5 : decode cX7_winsOf 5 = .ok (.aload_n 0, 1) := by decide +kernel
theorem dX7_winsOf_6 : decode cX7_winsOf 6 = .ok (.invokevirtual 99, 3) := by decide +kernel
theorem dX7_winsOf_9 : decode cX7_winsOf 9 = .ok (.if_icmp .ge 41, 3) := by decide +kernel
theorem dX7_winsOf_12 : decode cX7_winsOf 12 = .ok (.aload_n 0, 1) := by decide +kernel
theorem dX7_winsOf_13 : decode cX7_winsOf 13 = .ok (.iload_n 1, 1) := by decide +kernel
theorem dX7_winsOf_14 : decode cX7_winsOf 14 = .ok (.iload_n 3, 1) := by decide +kernel
theorem dX7_winsOf_15 : decode cX7_winsOf 15 = .ok (.invokevirtual 114, 3) := by decide +kernel
theorem dX7_winsOf_18 : decode cX7_winsOf 18 = .ok (.istore 4, 2) := by decide +kernel
theorem dX7_winsOf_20 : decode cX7_winsOf 20 = .ok (.iload_n 2, 1) := by decide +kernel
theorem dX7_winsOf_21 : decode cX7_winsOf 21 = .ok (.iload 4, 2) := by decide +kernel
theorem dX7_winsOf_23 : decode cX7_winsOf 23 = .ok (.ifCond .lt 18, 3) := by decide +kernel
theorem dX7_winsOf_26 : decode cX7_winsOf 26 = .ok (.aload_n 0, 1) := by decide +kernel
theorem dX7_winsOf_27 : decode cX7_winsOf 27 = .ok (.iload 4, 2) := by decide +kernel
theorem dX7_winsOf_29 : decode cX7_winsOf 29 = .ok (.iload_n 1, 1) := by decide +kernel
theorem dX7_winsOf_30 : decode cX7_winsOf 30 = .ok (.invokevirtual 105, 3) := by decide +kernel
theorem dX7_winsOf_33 : decode cX7_winsOf 33 = .ok (.iconst 2, 1) := by decide +kernel
theorem dX7_winsOf_34 : decode cX7_winsOf 34 = .ok (.if_icmp .ne 7, 3) := by decide +kernel
theorem dX7_winsOf_37 : decode cX7_winsOf 37 = .ok (.iconst 1, 1) := by decide +kernel
theorem dX7_winsOf_38 : decode cX7_winsOf 38 = .ok (.goto 4, 3) := by decide +kernel
theorem dX7_winsOf_41 : decode cX7_winsOf 41 = .ok (.iconst 0, 1) := by decide +kernel
theorem dX7_winsOf_42 : decode cX7_winsOf 42 = .ok (.iadd, 1) := by decide +kernel
theorem dX7_winsOf_43 : decode cX7_winsOf 43 = .ok (.istore_n 2, 1) := by decide +kernel
theorem dX7_winsOf_44 : decode cX7_winsOf 44 = .ok (.iinc 3 1, 3) := by decide +kernel
theorem dX7_winsOf_47 : decode cX7_winsOf 47 = .ok (.goto (-43), 3) := by decide +kernel
theorem dX7_winsOf_50 : decode cX7_winsOf 50 = .ok (.iload_n 2, 1) := by decide +kernel
theorem dX7_winsOf_51 : decode cX7_winsOf 51 = .ok (.ireturn, 1) := by decide +kernel
theorem dX7_growthOf_0 : decode cX7_growthOf 0 = .ok (.iconst 0, 1) := by decide +kernel
theorem dX7_growthOf_1 : decode cX7_growthOf 1 = .ok (.istore_n 2, 1) := by decide +kernel
theorem dX7_growthOf_2 : decode cX7_growthOf 2 = .ok (.iconst 1, 1) := by decide +kernel
theorem dX7_growthOf_3 : decode cX7_growthOf 3 = .ok (.istore_n 3, 1) := by decide +kernel
theorem dX7_growthOf_4 : decode cX7_growthOf 4 = .ok (.iload_n 3, 1) := by decide +kernel
theorem dX7_growthOf_5 : decode cX7_growthOf 5 = .ok (.aload_n 0, 1) := by decide +kernel
theorem dX7_growthOf_6 : decode cX7_growthOf 6 = .ok (.invokevirtual 99, 3) := by decide +kernel
theorem dX7_growthOf_9 : decode cX7_growthOf 9 = .ok (.if_icmp .gt 18, 3) := by decide +kernel
theorem dX7_growthOf_12 : decode cX7_growthOf 12 = .ok (.iload_n 2, 1) := by decide +kernel
theorem dX7_growthOf_13 : decode cX7_growthOf 13 = .ok (.aload_n 0, 1) := by decide +kernel
theorem dX7_growthOf_14 : decode cX7_growthOf 14 = .ok (.iload_n 1, 1) := by decide +kernel
theorem dX7_growthOf_15 : decode cX7_growthOf 15 = .ok (.iload_n 3, 1) := by decide +kernel
theorem dX7_growthOf_16 : decode cX7_growthOf 16 = .ok (.invokevirtual 111, 3) := by decide +kernel
theorem dX7_growthOf_19 : decode cX7_growthOf 19 = .ok (.iadd, 1) := by decide +kernel
theorem dX7_growthOf_20 : decode cX7_growthOf 20 = .ok (.istore_n 2, 1) := by decide +kernel
theorem dX7_growthOf_21 : decode cX7_growthOf 21 = .ok (.iinc 3 1, 3) := by decide +kernel
theorem dX7_growthOf_24 : decode cX7_growthOf 24 = .ok (.goto (-20), 3) := by decide +kernel
theorem dX7_growthOf_27 : decode cX7_growthOf 27 = .ok (.iload_n 2, 1) := by decide +kernel
theorem dX7_growthOf_28 : decode cX7_growthOf 28 = .ok (.ireturn, 1) := by decide +kernel
theorem dX7_directOf_0 : decode cX7_directOf 0 = .ok (.iconst 0, 1) := by decide +kernel
theorem dX7_directOf_1 : decode cX7_directOf 1 = .ok (.istore_n 2, 1) := by decide +kernel
theorem dX7_directOf_2 : decode cX7_directOf 2 = .ok (.iconst 0, 1) := by decide +kernel
theorem dX7_directOf_3 : decode cX7_directOf 3 = .ok (.istore_n 3, 1) := by decide +kernel
theorem dX7_directOf_4 : decode cX7_directOf 4 = .ok (.iload_n 3, 1) := by decide +kernel
theorem dX7_directOf_5 : decode cX7_directOf 5 = .ok (.aload_n 0, 1) := by decide +kernel
theorem dX7_directOf_6 : decode cX7_directOf 6 = .ok (.invokevirtual 99, 3) := by decide +kernel
theorem dX7_directOf_9 : decode cX7_directOf 9 = .ok (.if_icmp .ge 55, 3) := by decide +kernel
theorem dX7_directOf_12 : decode cX7_directOf 12 = .ok (.aload_n 0, 1) := by decide +kernel
theorem dX7_directOf_13 : decode cX7_directOf 13 = .ok (.iload_n 1, 1) := by decide +kernel
theorem dX7_directOf_14 : decode cX7_directOf 14 = .ok (.iload_n 3, 1) := by decide +kernel
theorem dX7_directOf_15 : decode cX7_directOf 15 = .ok (.invokevirtual 114, 3) := by decide +kernel
theorem dX7_directOf_18 : decode cX7_directOf 18 = .ok (.istore 4, 2) := by decide +kernel
theorem dX7_directOf_20 : decode cX7_directOf 20 = .ok (.iload_n 2, 1) := by decide +kernel
theorem dX7_directOf_21 : decode cX7_directOf 21 = .ok (.iload 4, 2) := by decide +kernel
theorem dX7_directOf_23 : decode cX7_directOf 23 = .ok (.ifCond .lt 32, 3) := by decide +kernel
theorem dX7_directOf_26 : decode cX7_directOf 26 = .ok (.aload_n 0, 1) := by decide +kernel
theorem dX7_directOf_27 : decode cX7_directOf 27 = .ok (.aload_n 0, 1) := by decide +kernel
theorem dX7_directOf_28 : decode cX7_directOf 28 = .ok (.iload 4, 2) := by decide +kernel
theorem dX7_directOf_30 : decode cX7_directOf 30 = .ok (.iload_n 1, 1) := by decide +kernel
theorem dX7_directOf_31 : decode cX7_directOf 31 = .ok (.invokevirtual 117, 3) := by decide +kernel
theorem dX7_directOf_34 : decode cX7_directOf 34 = .ok (.invokevirtual 128, 3) := by decide +kernel
theorem dX7_directOf_37 : decode cX7_directOf 37 = .ok (.aload_n 0, 1) := by decide +kernel
theorem dX7_directOf_38 : decode cX7_directOf 38 = .ok (.iload_n 1, 1) := by decide +kernel
theorem dX7_directOf_39 : decode cX7_directOf 39 = .ok (.invokevirtual 128, 3) := by decide +kernel
theorem dX7_directOf_42 : decode cX7_directOf 42 = .ok (.if_icmp .ne 13, 3) := by decide +kernel
theorem dX7_directOf_45 : decode cX7_directOf 45 = .ok (.aload_n 0, 1) := by decide +kernel
theorem dX7_directOf_46 : decode cX7_directOf 46 = .ok (.iload 4, 2) := by decide +kernel
theorem dX7_directOf_48 : decode cX7_directOf 48 = .ok (.iload_n 1, 1) := by decide +kernel
theorem dX7_directOf_49 : decode cX7_directOf 49 = .ok (.invokevirtual 105, 3) := by decide +kernel
theorem dX7_directOf_52 : decode cX7_directOf 52 = .ok (.goto 4, 3) := by decide +kernel
theorem dX7_directOf_55 : decode cX7_directOf 55 = .ok (.iconst 0, 1) := by decide +kernel
theorem dX7_directOf_56 : decode cX7_directOf 56 = .ok (.iadd, 1) := by decide +kernel
theorem dX7_directOf_57 : decode cX7_directOf 57 = .ok (.istore_n 2, 1) := by decide +kernel
theorem dX7_directOf_58 : decode cX7_directOf 58 = .ok (.iinc 3 1, 3) := by decide +kernel
theorem dX7_directOf_61 : decode cX7_directOf 61 = .ok (.goto (-57), 3) := by decide +kernel
theorem dX7_directOf_64 : decode cX7_directOf 64 = .ok (.iload_n 2, 1) := by decide +kernel
theorem dX7_directOf_65 : decode cX7_directOf 65 = .ok (.ireturn, 1) := by decide +kernel
theorem dX7_tieOf_0 : decode cX7_tieOf 0 = .ok (.iload_n 2, 1) := by decide +kernel
theorem dX7_tieOf_1 : decode cX7_tieOf 1 = .ok (.tableswitch 99 0 7 #[47, 53, 53, 69, 75, 81, 87, 93], 47) := by decide +kernel
theorem dX7_tieOf_48 : decode cX7_tieOf 48 = .ok (.aload_n 0, 1) := by decide +kernel
theorem dX7_tieOf_49 : decode cX7_tieOf 49 = .ok (.iload_n 1, 1) := by decide +kernel
theorem dX7_tieOf_50 : decode cX7_tieOf 50 = .ok (.invokevirtual 128, 3) := by decide +kernel
theorem dX7_tieOf_53 : decode cX7_tieOf 53 = .ok (.ireturn, 1) := by decide +kernel
theorem dX7_tieOf_54 : decode cX7_tieOf 54 = .ok (.aload_n 0, 1) := by decide +kernel
theorem dX7_tieOf_55 : decode cX7_tieOf 55 = .ok (.iload_n 1, 1) := by decide +kernel
theorem dX7_tieOf_56 : decode cX7_tieOf 56 = .ok (.iload_n 2, 1) := by decide +kernel
theorem dX7_tieOf_57 : decode cX7_tieOf 57 = .ok (.iconst 2, 1) := by decide +kernel
theorem dX7_tieOf_58 : decode cX7_tieOf 58 = .ok (.if_icmp .ne 7, 3) := by decide +kernel
theorem dX7_tieOf_61 : decode cX7_tieOf 61 = .ok (.iconst 1, 1) := by decide +kernel
theorem dX7_tieOf_62 : decode cX7_tieOf 62 = .ok (.goto 4, 3) := by decide +kernel
theorem dX7_tieOf_65 : decode cX7_tieOf 65 = .ok (.iconst 0, 1) := by decide +kernel
theorem dX7_tieOf_66 : decode cX7_tieOf 66 = .ok (.invokevirtual 131, 3) := by decide +kernel
theorem dX7_tieOf_69 : decode cX7_tieOf 69 = .ok (.ireturn, 1) := by decide +kernel
theorem dX7_tieOf_70 : decode cX7_tieOf 70 = .ok (.aload_n 0, 1) := by decide +kernel
theorem dX7_tieOf_71 : decode cX7_tieOf 71 = .ok (.iload_n 1, 1) := by decide +kernel
theorem dX7_tieOf_72 : decode cX7_tieOf 72 = .ok (.invokevirtual 135, 3) := by decide +kernel
theorem dX7_tieOf_75 : decode cX7_tieOf 75 = .ok (.ireturn, 1) := by decide +kernel
theorem dX7_tieOf_76 : decode cX7_tieOf 76 = .ok (.aload_n 0, 1) := by decide +kernel
theorem dX7_tieOf_77 : decode cX7_tieOf 77 = .ok (.iload_n 1, 1) := by decide +kernel
theorem dX7_tieOf_78 : decode cX7_tieOf 78 = .ok (.invokevirtual 138, 3) := by decide +kernel
theorem dX7_tieOf_81 : decode cX7_tieOf 81 = .ok (.ireturn, 1) := by decide +kernel
theorem dX7_tieOf_82 : decode cX7_tieOf 82 = .ok (.aload_n 0, 1) := by decide +kernel
theorem dX7_tieOf_83 : decode cX7_tieOf 83 = .ok (.iload_n 1, 1) := by decide +kernel
theorem dX7_tieOf_84 : decode cX7_tieOf 84 = .ok (.invokevirtual 124, 3) := by decide +kernel
theorem dX7_tieOf_87 : decode cX7_tieOf 87 = .ok (.ireturn, 1) := by decide +kernel
theorem dX7_tieOf_88 : decode cX7_tieOf 88 = .ok (.aload_n 0, 1) := by decide +kernel
theorem dX7_tieOf_89 : decode cX7_tieOf 89 = .ok (.iload_n 1, 1) := by decide +kernel
theorem dX7_tieOf_90 : decode cX7_tieOf 90 = .ok (.invokevirtual 141, 3) := by decide +kernel
theorem dX7_tieOf_93 : decode cX7_tieOf 93 = .ok (.ireturn, 1) := by decide +kernel
theorem dX7_tieOf_94 : decode cX7_tieOf 94 = .ok (.aload_n 0, 1) := by decide +kernel
theorem dX7_tieOf_95 : decode cX7_tieOf 95 = .ok (.iload_n 1, 1) := by decide +kernel
theorem dX7_tieOf_96 : decode cX7_tieOf 96 = .ok (.invokevirtual 144, 3) := by decide +kernel
theorem dX7_tieOf_99 : decode cX7_tieOf 99 = .ok (.ireturn, 1) := by decide +kernel
theorem dX7_tieOf_100 : decode cX7_tieOf 100 = .ok (.aload_n 0, 1) := by decide +kernel
theorem dX7_tieOf_101 : decode cX7_tieOf 101 = .ok (.getfield 7, 3) := by decide +kernel
theorem dX7_tieOf_104 : decode cX7_tieOf 104 = .ok (.iload_n 1, 1) := by decide +kernel
theorem dX7_tieOf_105 : decode cX7_tieOf 105 = .ok (.iaload, 1) := by decide +kernel
theorem dX7_tieOf_106 : decode cX7_tieOf 106 = .ok (.ireturn, 1) := by decide +kernel
theorem dX7_differsIn_0 : decode cX7_differsIn 0 = .ok (.iconst (-1), 1) := by decide +kernel
theorem dX7_differsIn_1 : decode cX7_differsIn 1 = .ok (.istore_n 3, 1) := by decide +kernel
theorem dX7_differsIn_2 : decode cX7_differsIn 2 = .ok (.aload_n 0, 1) := by decide +kernel
theorem dX7_differsIn_3 : decode cX7_differsIn 3 = .ok (.getfield 31, 3) := by decide +kernel
theorem dX7_differsIn_6 : decode cX7_differsIn 6 = .ok (.iconst 1, 1) := by decide +kernel
theorem dX7_differsIn_7 : decode cX7_differsIn 7 = .ok (.isub, 1) := by decide +kernel
theorem dX7_differsIn_8 : decode cX7_differsIn 8 = .ok (.istore 4, 2) := by decide +kernel
theorem dX7_differsIn_10 : decode cX7_differsIn 10 = .ok (.iload 4, 2) := by decide +kernel
theorem dX7_differsIn_12 : decode cX7_differsIn 12 = .ok (.ifCond .lt 58, 3) := by decide +kernel
theorem dX7_differsIn_15 : decode cX7_differsIn 15 = .ok (.aload_n 0, 1) := by decide +kernel
theorem dX7_differsIn_16 : decode cX7_differsIn 16 = .ok (.getfield 38, 3) := by decide +kernel
theorem dX7_differsIn_19 : decode cX7_differsIn 19 = .ok (.bipush 9, 2) := by decide +kernel
theorem dX7_differsIn_21 : decode cX7_differsIn 21 = .ok (.iload_n 1, 1) := by decide +kernel
theorem dX7_differsIn_22 : decode cX7_differsIn 22 = .ok (.imul, 1) := by decide +kernel
theorem dX7_differsIn_23 : decode cX7_differsIn 23 = .ok (.aload_n 0, 1) := by decide +kernel
theorem dX7_differsIn_24 : decode cX7_differsIn 24 = .ok (.getfield 35, 3) := by decide +kernel
theorem dX7_differsIn_27 : decode cX7_differsIn 27 = .ok (.iload 4, 2) := by decide +kernel
theorem dX7_differsIn_29 : decode cX7_differsIn 29 = .ok (.iaload, 1) := by decide +kernel
theorem dX7_differsIn_30 : decode cX7_differsIn 30 = .ok (.iadd, 1) := by decide +kernel
theorem dX7_differsIn_31 : decode cX7_differsIn 31 = .ok (.iaload, 1) := by decide +kernel
theorem dX7_differsIn_32 : decode cX7_differsIn 32 = .ok (.aload_n 0, 1) := by decide +kernel
theorem dX7_differsIn_33 : decode cX7_differsIn 33 = .ok (.getfield 38, 3) := by decide +kernel
theorem dX7_differsIn_36 : decode cX7_differsIn 36 = .ok (.bipush 9, 2) := by decide +kernel
theorem dX7_differsIn_38 : decode cX7_differsIn 38 = .ok (.iload_n 2, 1) := by decide +kernel
theorem dX7_differsIn_39 : decode cX7_differsIn 39 = .ok (.imul, 1) := by decide +kernel
theorem dX7_differsIn_40 : decode cX7_differsIn 40 = .ok (.aload_n 0, 1) := by decide +kernel
theorem dX7_differsIn_41 : decode cX7_differsIn 41 = .ok (.getfield 35, 3) := by decide +kernel
theorem dX7_differsIn_44 : decode cX7_differsIn 44 = .ok (.iload 4, 2) := by decide +kernel
theorem dX7_differsIn_46 : decode cX7_differsIn 46 = .ok (.iaload, 1) := by decide +kernel
theorem dX7_differsIn_47 : decode cX7_differsIn 47 = .ok (.iadd, 1) := by decide +kernel
theorem dX7_differsIn_48 : decode cX7_differsIn 48 = .ok (.iaload, 1) := by decide +kernel
theorem dX7_differsIn_49 : decode cX7_differsIn 49 = .ok (.if_icmp .eq 13, 3) := by decide +kernel
theorem dX7_differsIn_52 : decode cX7_differsIn 52 = .ok (.aload_n 0, 1) := by decide +kernel
theorem dX7_differsIn_53 : decode cX7_differsIn 53 = .ok (.getfield 35, 3) := by decide +kernel
theorem dX7_differsIn_56 : decode cX7_differsIn 56 = .ok (.iload 4, 2) := by decide +kernel
theorem dX7_differsIn_58 : decode cX7_differsIn 58 = .ok (.iaload, 1) := by decide +kernel
theorem dX7_differsIn_59 : decode cX7_differsIn 59 = .ok (.goto 4, 3) := by decide +kernel
theorem dX7_differsIn_62 : decode cX7_differsIn 62 = .ok (.iload_n 3, 1) := by decide +kernel
theorem dX7_differsIn_63 : decode cX7_differsIn 63 = .ok (.istore_n 3, 1) := by decide +kernel
theorem dX7_differsIn_64 : decode cX7_differsIn 64 = .ok (.iinc 4 (-1), 3) := by decide +kernel
theorem dX7_differsIn_67 : decode cX7_differsIn 67 = .ok (.goto (-57), 3) := by decide +kernel
theorem dX7_differsIn_70 : decode cX7_differsIn 70 = .ok (.iload_n 3, 1) := by decide +kernel
theorem dX7_differsIn_71 : decode cX7_differsIn 71 = .ok (.ireturn, 1) := by decide +kernel
theorem dX7_isAhead_0 : decode cX7_isAhead 0 = .ok (.aload_n 0, 1) := by decide +kernel
theorem dX7_isAhead_1 : decode cX7_isAhead 1 = .ok (.iload_n 1, 1) := by decide +kernel
theorem dX7_isAhead_2 : decode cX7_isAhead 2 = .ok (.iload_n 2, 1) := by decide +kernel
theorem dX7_isAhead_3 : decode cX7_isAhead 3 = .ok (.invokevirtual 147, 3) := by decide +kernel
theorem dX7_isAhead_6 : decode cX7_isAhead 6 = .ok (.istore_n 3, 1) := by decide +kernel
theorem dX7_isAhead_7 : decode cX7_isAhead 7 = .ok (.iload_n 3, 1) := by decide +kernel
theorem dX7_isAhead_8 : decode cX7_isAhead 8 = .ok (.ifCond .ge 16, 3) := by decide +kernel
theorem dX7_isAhead_11 : decode cX7_isAhead 11 = .ok (.iload_n 1, 1) := by decide +kernel
theorem dX7_isAhead_12 : decode cX7_isAhead 12 = .ok (.iload_n 2, 1) := by decide +kernel
theorem dX7_isAhead_13 : decode cX7_isAhead 13 = .ok (.if_icmp .ge 7, 3) := by decide +kernel
theorem dX7_isAhead_16 : decode cX7_isAhead 16 = .ok (.iconst 1, 1) := by decide +kernel
theorem dX7_isAhead_17 : decode cX7_isAhead 17 = .ok (.goto 37, 3) := by decide +kernel
theorem dX7_isAhead_20 : decode cX7_isAhead 20 = .ok (.iconst 0, 1) := by decide +kernel
theorem dX7_isAhead_21 : decode cX7_isAhead 21 = .ok (.goto 33, 3) := by decide +kernel
theorem dX7_isAhead_24 : decode cX7_isAhead 24 = .ok (.aload_n 0, 1) := by decide +kernel
theorem dX7_isAhead_25 : decode cX7_isAhead 25 = .ok (.getfield 38, 3) := by decide +kernel
theorem dX7_isAhead_28 : decode cX7_isAhead 28 = .ok (.bipush 9, 2) := by decide +kernel
theorem dX7_isAhead_30 : decode cX7_isAhead 30 = .ok (.iload_n 1, 1) := by decide +kernel
theorem dX7_isAhead_31 : decode cX7_isAhead 31 = .ok (.imul, 1) := by decide +kernel
theorem dX7_isAhead_32 : decode cX7_isAhead 32 = .ok (.iload_n 3, 1) := by decide +kernel
theorem dX7_isAhead_33 : decode cX7_isAhead 33 = .ok (.iadd, 1) := by decide +kernel
theorem dX7_isAhead_34 : decode cX7_isAhead 34 = .ok (.iaload, 1) := by decide +kernel
theorem dX7_isAhead_35 : decode cX7_isAhead 35 = .ok (.aload_n 0, 1) := by decide +kernel
theorem dX7_isAhead_36 : decode cX7_isAhead 36 = .ok (.getfield 38, 3) := by decide +kernel
theorem dX7_isAhead_39 : decode cX7_isAhead 39 = .ok (.bipush 9, 2) := by decide +kernel
theorem dX7_isAhead_41 : decode cX7_isAhead 41 = .ok (.iload_n 2, 1) := by decide +kernel
theorem dX7_isAhead_42 : decode cX7_isAhead 42 = .ok (.imul, 1) := by decide +kernel
theorem dX7_isAhead_43 : decode cX7_isAhead 43 = .ok (.iload_n 3, 1) := by decide +kernel
theorem dX7_isAhead_44 : decode cX7_isAhead 44 = .ok (.iadd, 1) := by decide +kernel
theorem dX7_isAhead_45 : decode cX7_isAhead 45 = .ok (.iaload, 1) := by decide +kernel
theorem dX7_isAhead_46 : decode cX7_isAhead 46 = .ok (.if_icmp .le 7, 3) := by decide +kernel
theorem dX7_isAhead_49 : decode cX7_isAhead 49 = .ok (.iconst 1, 1) := by decide +kernel
theorem dX7_isAhead_50 : decode cX7_isAhead 50 = .ok (.goto 4, 3) := by decide +kernel
theorem dX7_isAhead_53 : decode cX7_isAhead 53 = .ok (.iconst 0, 1) := by decide +kernel
theorem dX7_isAhead_54 : decode cX7_isAhead 54 = .ok (.ireturn, 1) := by decide +kernel
theorem dX7_aheadOf_0 : decode cX7_aheadOf 0 = .ok (.iconst 0, 1) := by decide +kernel
theorem dX7_aheadOf_1 : decode cX7_aheadOf 1 = .ok (.istore_n 2, 1) := by decide +kernel
theorem dX7_aheadOf_2 : decode cX7_aheadOf 2 = .ok (.iconst 0, 1) := by decide +kernel
theorem dX7_aheadOf_3 : decode cX7_aheadOf 3 = .ok (.istore_n 3, 1) := by decide +kernel
theorem dX7_aheadOf_4 : decode cX7_aheadOf 4 = .ok (.iload_n 3, 1) := by decide +kernel
theorem dX7_aheadOf_5 : decode cX7_aheadOf 5 = .ok (.aload_n 0, 1) := by decide +kernel
theorem dX7_aheadOf_6 : decode cX7_aheadOf 6 = .ok (.getfield 78, 3) := by decide +kernel
theorem dX7_aheadOf_9 : decode cX7_aheadOf 9 = .ok (.if_icmp .ge 31, 3) := by decide +kernel
theorem dX7_aheadOf_12 : decode cX7_aheadOf 12 = .ok (.iload_n 2, 1) := by decide +kernel
theorem dX7_aheadOf_13 : decode cX7_aheadOf 13 = .ok (.iload_n 3, 1) := by decide +kernel
theorem dX7_aheadOf_14 : decode cX7_aheadOf 14 = .ok (.iload_n 1, 1) := by decide +kernel
theorem dX7_aheadOf_15 : decode cX7_aheadOf 15 = .ok (.if_icmp .eq 16, 3) := by decide +kernel
theorem dX7_aheadOf_18 : decode cX7_aheadOf 18 = .ok (.aload_n 0, 1) := by decide +kernel
theorem dX7_aheadOf_19 : decode cX7_aheadOf 19 = .ok (.iload_n 3, 1) := by decide +kernel
theorem dX7_aheadOf_20 : decode cX7_aheadOf 20 = .ok (.iload_n 1, 1) := by decide +kernel
theorem dX7_aheadOf_21 : decode cX7_aheadOf 21 = .ok (.invokevirtual 150, 3) := by decide +kernel
theorem dX7_aheadOf_24 : decode cX7_aheadOf 24 = .ok (.ifCond .eq 7, 3) := by decide +kernel
theorem dX7_aheadOf_27 : decode cX7_aheadOf 27 = .ok (.iconst 1, 1) := by decide +kernel
theorem dX7_aheadOf_28 : decode cX7_aheadOf 28 = .ok (.goto 4, 3) := by decide +kernel
theorem dX7_aheadOf_31 : decode cX7_aheadOf 31 = .ok (.iconst 0, 1) := by decide +kernel
theorem dX7_aheadOf_32 : decode cX7_aheadOf 32 = .ok (.iadd, 1) := by decide +kernel
theorem dX7_aheadOf_33 : decode cX7_aheadOf 33 = .ok (.istore_n 2, 1) := by decide +kernel
theorem dX7_aheadOf_34 : decode cX7_aheadOf 34 = .ok (.iinc 3 1, 3) := by decide +kernel
theorem dX7_aheadOf_37 : decode cX7_aheadOf 37 = .ok (.goto (-33), 3) := by decide +kernel
theorem dX7_aheadOf_40 : decode cX7_aheadOf 40 = .ok (.iload_n 2, 1) := by decide +kernel
theorem dX7_aheadOf_41 : decode cX7_aheadOf 41 = .ok (.ireturn, 1) := by decide +kernel
theorem dX7_layStanding_0 : decode cX7_layStanding 0 = .ok (.iconst 0, 1) := by decide +kernel
theorem dX7_layStanding_1 : decode cX7_layStanding 1 = .ok (.istore_n 1, 1) := by decide +kernel
theorem dX7_layStanding_2 : decode cX7_layStanding 2 = .ok (.iload_n 1, 1) := by decide +kernel
theorem dX7_layStanding_3 : decode cX7_layStanding 3 = .ok (.aload_n 0, 1) := by decide +kernel
theorem dX7_layStanding_4 : decode cX7_layStanding 4 = .ok (.getfield 78, 3) := by decide +kernel
theorem dX7_layStanding_7 : decode cX7_layStanding 7 = .ok (.if_icmp .ge 40, 3) := by decide +kernel
theorem dX7_layStanding_10 : decode cX7_layStanding 10 = .ok (.iconst 0, 1) := by decide +kernel
theorem dX7_layStanding_11 : decode cX7_layStanding 11 = .ok (.istore_n 2, 1) := by decide +kernel
theorem dX7_layStanding_12 : decode cX7_layStanding 12 = .ok (.iload_n 2, 1) := by decide +kernel
theorem dX7_layStanding_13 : decode cX7_layStanding 13 = .ok (.bipush 9, 2) := by decide +kernel
theorem dX7_layStanding_15 : decode cX7_layStanding 15 = .ok (.if_icmp .ge 26, 3) := by decide +kernel
theorem dX7_layStanding_18 : decode cX7_layStanding 18 = .ok (.aload_n 0, 1) := by decide +kernel
theorem dX7_layStanding_19 : decode cX7_layStanding 19 = .ok (.getfield 38, 3) := by decide +kernel
theorem dX7_layStanding_22 : decode cX7_layStanding 22 = .ok (.bipush 9, 2) := by decide +kernel
theorem dX7_layStanding_24 : decode cX7_layStanding 24 = .ok (.iload_n 1, 1) := by decide +kernel
theorem dX7_layStanding_25 : decode cX7_layStanding 25 = .ok (.imul, 1) := by decide +kernel
theorem dX7_layStanding_26 : decode cX7_layStanding 26 = .ok (.iload_n 2, 1) := by decide +kernel
theorem dX7_layStanding_27 : decode cX7_layStanding 27 = .ok (.iadd, 1) := by decide +kernel
theorem dX7_layStanding_28 : decode cX7_layStanding 28 = .ok (.aload_n 0, 1) := by decide +kernel
theorem dX7_layStanding_29 : decode cX7_layStanding 29 = .ok (.iload_n 1, 1) := by decide +kernel
theorem dX7_layStanding_30 : decode cX7_layStanding 30 = .ok (.iload_n 2, 1) := by decide +kernel
theorem dX7_layStanding_31 : decode cX7_layStanding 31 = .ok (.invokevirtual 154, 3) := by decide +kernel
theorem dX7_layStanding_34 : decode cX7_layStanding 34 = .ok (.iastore, 1) := by decide +kernel
theorem dX7_layStanding_35 : decode cX7_layStanding 35 = .ok (.iinc 2 1, 3) := by decide +kernel
theorem dX7_layStanding_38 : decode cX7_layStanding 38 = .ok (.goto (-26), 3) := by decide +kernel
theorem dX7_layStanding_41 : decode cX7_layStanding 41 = .ok (.iinc 1 1, 3) := by decide +kernel
theorem dX7_layStanding_44 : decode cX7_layStanding 44 = .ok (.goto (-42), 3) := by decide +kernel
theorem dX7_layStanding_47 : decode cX7_layStanding 47 = .ok (.iconst 0, 1) := by decide +kernel
theorem dX7_layStanding_48 : decode cX7_layStanding 48 = .ok (.istore_n 1, 1) := by decide +kernel
theorem dX7_layStanding_49 : decode cX7_layStanding 49 = .ok (.iload_n 1, 1) := by decide +kernel
theorem dX7_layStanding_50 : decode cX7_layStanding 50 = .ok (.aload_n 0, 1) := by decide +kernel
theorem dX7_layStanding_51 : decode cX7_layStanding 51 = .ok (.getfield 78, 3) := by decide +kernel
theorem dX7_layStanding_54 : decode cX7_layStanding 54 = .ok (.if_icmp .ge 20, 3) := by decide +kernel
theorem dX7_layStanding_57 : decode cX7_layStanding 57 = .ok (.aload_n 0, 1) := by decide +kernel
theorem dX7_layStanding_58 : decode cX7_layStanding 58 = .ok (.getfield 41, 3) := by decide +kernel
theorem dX7_layStanding_61 : decode cX7_layStanding 61 = .ok (.aload_n 0, 1) := by decide +kernel
theorem dX7_layStanding_62 : decode cX7_layStanding 62 = .ok (.iload_n 1, 1) := by decide +kernel
theorem dX7_layStanding_63 : decode cX7_layStanding 63 = .ok (.invokevirtual 157, 3) := by decide +kernel
theorem dX7_layStanding_66 : decode cX7_layStanding 66 = .ok (.iload_n 1, 1) := by decide +kernel
theorem dX7_layStanding_67 : decode cX7_layStanding 67 = .ok (.iastore, 1) := by decide +kernel
theorem dX7_layStanding_68 : decode cX7_layStanding 68 = .ok (.iinc 1 1, 3) := by decide +kernel
theorem dX7_layStanding_71 : decode cX7_layStanding 71 = .ok (.goto (-22), 3) := by decide +kernel
theorem dX7_layStanding_74 : decode cX7_layStanding 74 = .ok (.return_, 1) := by decide +kernel
theorem dX7_costOf_0 : decode cX7_costOf 0 = .ok (.aload_n 0, 1) := by decide +kernel
theorem dX7_costOf_1 : decode cX7_costOf 1 = .ok (.iload_n 1, 1) := by decide +kernel
theorem dX7_costOf_2 : decode cX7_costOf 2 = .ok (.invokevirtual 128, 3) := by decide +kernel
theorem dX7_costOf_5 : decode cX7_costOf 5 = .ok (.aload_n 0, 1) := by decide +kernel
theorem dX7_costOf_6 : decode cX7_costOf 6 = .ok (.iload_n 2, 1) := by decide +kernel
theorem dX7_costOf_7 : decode cX7_costOf 7 = .ok (.invokevirtual 128, 3) := by decide +kernel
theorem dX7_costOf_10 : decode cX7_costOf 10 = .ok (.isub, 1) := by decide +kernel
theorem dX7_costOf_11 : decode cX7_costOf 11 = .ok (.istore_n 3, 1) := by decide +kernel
theorem dX7_costOf_12 : decode cX7_costOf 12 = .ok (.aload_n 0, 1) := by decide +kernel
theorem dX7_costOf_13 : decode cX7_costOf 13 = .ok (.iload_n 1, 1) := by decide +kernel
theorem dX7_costOf_14 : decode cX7_costOf 14 = .ok (.invokevirtual 160, 3) := by decide +kernel
theorem dX7_costOf_17 : decode cX7_costOf 17 = .ok (.istore 4, 2) := by decide +kernel
theorem dX7_costOf_19 : decode cX7_costOf 19 = .ok (.aload_n 0, 1) := by decide +kernel
theorem dX7_costOf_20 : decode cX7_costOf 20 = .ok (.iload_n 2, 1) := by decide +kernel
theorem dX7_costOf_21 : decode cX7_costOf 21 = .ok (.invokevirtual 160, 3) := by decide +kernel
theorem dX7_costOf_24 : decode cX7_costOf 24 = .ok (.istore 5, 2) := by decide +kernel
theorem dX7_costOf_26 : decode cX7_costOf 26 = .ok (.bipush 10, 2) := by decide +kernel
theorem dX7_costOf_28 : decode cX7_costOf 28 = .ok (.iload_n 3, 1) := by decide +kernel
theorem dX7_costOf_29 : decode cX7_costOf 29 = .ok (.ifCond .ge 8, 3) := by decide +kernel
theorem dX7_costOf_32 : decode cX7_costOf 32 = .ok (.iload_n 3, 1) := by decide +kernel
theorem dX7_costOf_33 : decode cX7_costOf 33 = .ok (.ineg, 1) := by decide +kernel
theorem dX7_costOf_34 : decode cX7_costOf 34 = .ok (.goto 4, 3) := by decide +kernel
theorem dX7_costOf_37 : decode cX7_costOf 37 = .ok (.iload_n 3, 1) := by decide +kernel
theorem dX7_costOf_38 : decode cX7_costOf 38 = .ok (.imul, 1) := by decide +kernel
theorem dX7_costOf_39 : decode cX7_costOf 39 = .ok (.istore 6, 2) := by decide +kernel
theorem dX7_costOf_41 : decode cX7_costOf 41 = .ok (.iload 6, 2) := by decide +kernel
theorem dX7_costOf_43 : decode cX7_costOf 43 = .ok (.iload 4, 2) := by decide +kernel
theorem dX7_costOf_45 : decode cX7_costOf 45 = .ok (.ifCond .le 8, 3) := by decide +kernel
theorem dX7_costOf_48 : decode cX7_costOf 48 = .ok (.iload 5, 2) := by decide +kernel
theorem dX7_costOf_50 : decode cX7_costOf 50 = .ok (.ifCond .gt 13, 3) := by decide +kernel
theorem dX7_costOf_53 : decode cX7_costOf 53 = .ok (.iload 4, 2) := by decide +kernel
theorem dX7_costOf_55 : decode cX7_costOf 55 = .ok (.ifCond .ge 12, 3) := by decide +kernel
theorem dX7_costOf_58 : decode cX7_costOf 58 = .ok (.iload 5, 2) := by decide +kernel
theorem dX7_costOf_60 : decode cX7_costOf 60 = .ok (.ifCond .ge 7, 3) := by decide +kernel
theorem dX7_costOf_63 : decode cX7_costOf 63 = .ok (.iconst 3, 1) := by decide +kernel
theorem dX7_costOf_64 : decode cX7_costOf 64 = .ok (.goto 4, 3) := by decide +kernel
theorem dX7_costOf_67 : decode cX7_costOf 67 = .ok (.iconst 0, 1) := by decide +kernel
theorem dX7_costOf_68 : decode cX7_costOf 68 = .ok (.iadd, 1) := by decide +kernel
theorem dX7_costOf_69 : decode cX7_costOf 69 = .ok (.istore 6, 2) := by decide +kernel
theorem dX7_costOf_71 : decode cX7_costOf 71 = .ok (.iload 6, 2) := by decide +kernel
theorem dX7_costOf_73 : decode cX7_costOf 73 = .ok (.aload_n 0, 1) := by decide +kernel
theorem dX7_costOf_74 : decode cX7_costOf 74 = .ok (.iload_n 1, 1) := by decide +kernel
theorem dX7_costOf_75 : decode cX7_costOf 75 = .ok (.invokevirtual 163, 3) := by decide +kernel
theorem dX7_costOf_78 : decode cX7_costOf 78 = .ok (.ifCond .lt 20, 3) := by decide +kernel
theorem dX7_costOf_81 : decode cX7_costOf 81 = .ok (.aload_n 0, 1) := by decide +kernel
theorem dX7_costOf_82 : decode cX7_costOf 82 = .ok (.iload_n 1, 1) := by decide +kernel
theorem dX7_costOf_83 : decode cX7_costOf 83 = .ok (.invokevirtual 163, 3) := by decide +kernel
theorem dX7_costOf_86 : decode cX7_costOf 86 = .ok (.aload_n 0, 1) := by decide +kernel
theorem dX7_costOf_87 : decode cX7_costOf 87 = .ok (.iload_n 2, 1) := by decide +kernel
theorem dX7_costOf_88 : decode cX7_costOf 88 = .ok (.invokevirtual 163, 3) := by decide +kernel
theorem dX7_costOf_91 : decode cX7_costOf 91 = .ok (.if_icmp .ne 7, 3) := by decide +kernel
theorem dX7_costOf_94 : decode cX7_costOf 94 = .ok (.iconst 1, 1) := by decide +kernel
theorem dX7_costOf_95 : decode cX7_costOf 95 = .ok (.goto 4, 3) := by decide +kernel
theorem dX7_costOf_98 : decode cX7_costOf 98 = .ok (.iconst 0, 1) := by decide +kernel
theorem dX7_costOf_99 : decode cX7_costOf 99 = .ok (.iadd, 1) := by decide +kernel
theorem dX7_costOf_100 : decode cX7_costOf 100 = .ok (.ireturn, 1) := by decide +kernel
theorem dX7_layBye_0 : decode cX7_layBye 0 = .ok (.aload_n 0, 1) := by decide +kernel
theorem dX7_layBye_1 : decode cX7_layBye 1 = .ok (.bipush (-5), 2) := by decide +kernel
theorem dX7_layBye_3 : decode cX7_layBye 3 = .ok (.putfield 166, 3) := by decide +kernel
theorem dX7_layBye_6 : decode cX7_layBye 6 = .ok (.bipush (-5), 2) := by decide +kernel
theorem dX7_layBye_8 : decode cX7_layBye 8 = .ok (.istore_n 1, 1) := by decide +kernel
theorem dX7_layBye_9 : decode cX7_layBye 9 = .ok (.iconst 0, 1) := by decide +kernel
theorem dX7_layBye_10 : decode cX7_layBye 10 = .ok (.istore_n 2, 1) := by decide +kernel
theorem dX7_layBye_11 : decode cX7_layBye 11 = .ok (.iload_n 2, 1) := by decide +kernel
theorem dX7_layBye_12 : decode cX7_layBye 12 = .ok (.aload_n 0, 1) := by decide +kernel
theorem dX7_layBye_13 : decode cX7_layBye 13 = .ok (.getfield 78, 3) := by decide +kernel
theorem dX7_layBye_16 : decode cX7_layBye 16 = .ok (.if_icmp .ge 68, 3) := by decide +kernel
theorem dX7_layBye_19 : decode cX7_layBye 19 = .ok (.aload_n 0, 1) := by decide +kernel
theorem dX7_layBye_20 : decode cX7_layBye 20 = .ok (.getfield 41, 3) := by decide +kernel
theorem dX7_layBye_23 : decode cX7_layBye 23 = .ok (.iload_n 2, 1) := by decide +kernel
theorem dX7_layBye_24 : decode cX7_layBye 24 = .ok (.iaload, 1) := by decide +kernel
theorem dX7_layBye_25 : decode cX7_layBye 25 = .ok (.istore_n 3, 1) := by decide +kernel
theorem dX7_layBye_26 : decode cX7_layBye 26 = .ok (.aload_n 0, 1) := by decide +kernel
theorem dX7_layBye_27 : decode cX7_layBye 27 = .ok (.getfield 13, 3) := by decide +kernel
theorem dX7_layBye_30 : decode cX7_layBye 30 = .ok (.iload_n 3, 1) := by decide +kernel
theorem dX7_layBye_31 : decode cX7_layBye 31 = .ok (.iaload, 1) := by decide +kernel
theorem dX7_layBye_32 : decode cX7_layBye 32 = .ok (.iconst 1, 1) := by decide +kernel
theorem dX7_layBye_33 : decode cX7_layBye 33 = .ok (.if_icmp .ne 7, 3) := by decide +kernel
theorem dX7_layBye_36 : decode cX7_layBye 36 = .ok (.iload_n 3, 1) := by decide +kernel
theorem dX7_layBye_37 : decode cX7_layBye 37 = .ok (.goto 4, 3) := by decide +kernel
theorem dX7_layBye_40 : decode cX7_layBye 40 = .ok (.iload_n 1, 1) := by decide +kernel
theorem dX7_layBye_41 : decode cX7_layBye 41 = .ok (.istore_n 1, 1) := by decide +kernel
theorem dX7_layBye_42 : decode cX7_layBye 42 = .ok (.aload_n 0, 1) := by decide +kernel
theorem dX7_layBye_43 : decode cX7_layBye 43 = .ok (.aload_n 0, 1) := by decide +kernel
theorem dX7_layBye_44 : decode cX7_layBye 44 = .ok (.getfield 13, 3) := by decide +kernel
theorem dX7_layBye_47 : decode cX7_layBye 47 = .ok (.iload_n 3, 1) := by decide +kernel
theorem dX7_layBye_48 : decode cX7_layBye 48 = .ok (.iaload, 1) := by decide +kernel
theorem dX7_layBye_49 : decode cX7_layBye 49 = .ok (.iconst 1, 1) := by decide +kernel
theorem dX7_layBye_50 : decode cX7_layBye 50 = .ok (.if_icmp .ne 21, 3) := by decide +kernel
theorem dX7_layBye_53 : decode cX7_layBye 53 = .ok (.aload_n 0, 1) := by decide +kernel
theorem dX7_layBye_54 : decode cX7_layBye 54 = .ok (.iload_n 3, 1) := by decide +kernel
theorem dX7_layBye_55 : decode cX7_layBye 55 = .ok (.invokevirtual 169, 3) := by decide +kernel
theorem dX7_layBye_58 : decode cX7_layBye 58 = .ok (.aload_n 0, 1) := by decide +kernel
theorem dX7_layBye_59 : decode cX7_layBye 59 = .ok (.iload_n 3, 1) := by decide +kernel
theorem dX7_layBye_60 : decode cX7_layBye 60 = .ok (.invokevirtual 172, 3) := by decide +kernel
theorem dX7_layBye_63 : decode cX7_layBye 63 = .ok (.iadd, 1) := by decide +kernel
theorem dX7_layBye_64 : decode cX7_layBye 64 = .ok (.ifCond .ne 7, 3) := by decide +kernel
theorem dX7_layBye_67 : decode cX7_layBye 67 = .ok (.iload_n 3, 1) := by decide +kernel
theorem dX7_layBye_68 : decode cX7_layBye 68 = .ok (.goto 7, 3) := by decide +kernel
theorem dX7_layBye_71 : decode cX7_layBye 71 = .ok (.aload_n 0, 1) := by decide +kernel
theorem dX7_layBye_72 : decode cX7_layBye 72 = .ok (.getfield 166, 3) := by decide +kernel
theorem dX7_layBye_75 : decode cX7_layBye 75 = .ok (.putfield 166, 3) := by decide +kernel
theorem dX7_layBye_78 : decode cX7_layBye 78 = .ok (.iinc 2 1, 3) := by decide +kernel
theorem dX7_layBye_81 : decode cX7_layBye 81 = .ok (.goto (-70), 3) := by decide +kernel
theorem dX7_layBye_84 : decode cX7_layBye 84 = .ok (.aload_n 0, 1) := by decide +kernel
theorem dX7_layBye_85 : decode cX7_layBye 85 = .ok (.aload_n 0, 1) := by decide +kernel
theorem dX7_layBye_86 : decode cX7_layBye 86 = .ok (.invokevirtual 175, 3) := by decide +kernel
theorem dX7_layBye_89 : decode cX7_layBye 89 = .ok (.iconst 2, 1) := by decide +kernel
theorem dX7_layBye_90 : decode cX7_layBye 90 = .ok (.irem, 1) := by decide +kernel
theorem dX7_layBye_91 : decode cX7_layBye 91 = .ok (.ifCond .ne 8, 3) := by decide +kernel
theorem dX7_layBye_94 : decode cX7_layBye 94 = .ok (.bipush (-5), 2) := by decide +kernel
theorem dX7_layBye_96 : decode cX7_layBye 96 = .ok (.goto 18, 3) := by decide +kernel
theorem dX7_layBye_99 : decode cX7_layBye 99 = .ok (.aload_n 0, 1) := by decide +kernel
theorem dX7_layBye_100 : decode cX7_layBye 100 = .ok (.getfield 166, 3) := by decide +kernel
theorem dX7_layBye_103 : decode cX7_layBye 103 = .ok (.ifCond .ge 7, 3) := by decide +kernel
theorem dX7_layBye_106 : decode cX7_layBye 106 = .ok (.iload_n 1, 1) := by decide +kernel
theorem dX7_layBye_107 : decode cX7_layBye 107 = .ok (.goto 7, 3) := by decide +kernel
theorem dX7_layBye_110 : decode cX7_layBye 110 = .ok (.aload_n 0, 1) := by decide +kernel
theorem dX7_layBye_111 : decode cX7_layBye 111 = .ok (.getfield 166, 3) := by decide +kernel
theorem dX7_layBye_114 : decode cX7_layBye 114 = .ok (.putfield 166, 3) := by decide +kernel
theorem dX7_layBye_117 : decode cX7_layBye 117 = .ok (.return_, 1) := by decide +kernel
theorem dX7_layPlaces_0 : decode cX7_layPlaces 0 = .ok (.aload_n 0, 1) := by decide +kernel
theorem dX7_layPlaces_1 : decode cX7_layPlaces 1 = .ok (.invokevirtual 178, 3) := by decide +kernel
theorem dX7_layPlaces_4 : decode cX7_layPlaces 4 = .ok (.aload_n 0, 1) := by decide +kernel
theorem dX7_layPlaces_5 : decode cX7_layPlaces 5 = .ok (.invokevirtual 181, 3) := by decide +kernel
theorem dX7_layPlaces_8 : decode cX7_layPlaces 8 = .ok (.aload_n 0, 1) := by decide +kernel
theorem dX7_layPlaces_9 : decode cX7_layPlaces 9 = .ok (.iconst 0, 1) := by decide +kernel
theorem dX7_layPlaces_10 : decode cX7_layPlaces 10 = .ok (.putfield 184, 3) := by decide +kernel
theorem dX7_layPlaces_13 : decode cX7_layPlaces 13 = .ok (.iconst 0, 1) := by decide +kernel
theorem dX7_layPlaces_14 : decode cX7_layPlaces 14 = .ok (.istore_n 1, 1) := by decide +kernel
theorem dX7_layPlaces_15 : decode cX7_layPlaces 15 = .ok (.iload_n 1, 1) := by decide +kernel
theorem dX7_layPlaces_16 : decode cX7_layPlaces 16 = .ok (.aload_n 0, 1) := by decide +kernel
theorem dX7_layPlaces_17 : decode cX7_layPlaces 17 = .ok (.getfield 78, 3) := by decide +kernel
theorem dX7_layPlaces_20 : decode cX7_layPlaces 20 = .ok (.if_icmp .ge 54, 3) := by decide +kernel
theorem dX7_layPlaces_23 : decode cX7_layPlaces 23 = .ok (.aload_n 0, 1) := by decide +kernel
theorem dX7_layPlaces_24 : decode cX7_layPlaces 24 = .ok (.getfield 41, 3) := by decide +kernel
theorem dX7_layPlaces_27 : decode cX7_layPlaces 27 = .ok (.iload_n 1, 1) := by decide +kernel
theorem dX7_layPlaces_28 : decode cX7_layPlaces 28 = .ok (.iaload, 1) := by decide +kernel
theorem dX7_layPlaces_29 : decode cX7_layPlaces 29 = .ok (.istore_n 2, 1) := by decide +kernel
theorem dX7_layPlaces_30 : decode cX7_layPlaces 30 = .ok (.aload_n 0, 1) := by decide +kernel
theorem dX7_layPlaces_31 : decode cX7_layPlaces 31 = .ok (.getfield 13, 3) := by decide +kernel
theorem dX7_layPlaces_34 : decode cX7_layPlaces 34 = .ok (.iload_n 2, 1) := by decide +kernel
theorem dX7_layPlaces_35 : decode cX7_layPlaces 35 = .ok (.iaload, 1) := by decide +kernel
theorem dX7_layPlaces_36 : decode cX7_layPlaces 36 = .ok (.iconst 1, 1) := by decide +kernel
theorem dX7_layPlaces_37 : decode cX7_layPlaces 37 = .ok (.if_icmp .ne 31, 3) := by decide +kernel
theorem dX7_layPlaces_40 : decode cX7_layPlaces 40 = .ok (.iload_n 2, 1) := by decide +kernel
theorem dX7_layPlaces_41 : decode cX7_layPlaces 41 = .ok (.aload_n 0, 1) := by decide +kernel
theorem dX7_layPlaces_42 : decode cX7_layPlaces 42 = .ok (.getfield 166, 3) := by decide +kernel
theorem dX7_layPlaces_45 : decode cX7_layPlaces 45 = .ok (.if_icmp .eq 23, 3) := by decide +kernel
theorem dX7_layPlaces_48 : decode cX7_layPlaces 48 = .ok (.aload_n 0, 1) := by decide +kernel
theorem dX7_layPlaces_49 : decode cX7_layPlaces 49 = .ok (.getfield 44, 3) := by decide +kernel
theorem dX7_layPlaces_52 : decode cX7_layPlaces 52 = .ok (.aload_n 0, 1) := by decide +kernel
theorem dX7_layPlaces_53 : decode cX7_layPlaces 53 = .ok (.getfield 184, 3) := by decide +kernel
theorem dX7_layPlaces_56 : decode cX7_layPlaces 56 = .ok (.iload_n 2, 1) := by decide +kernel
theorem dX7_layPlaces_57 : decode cX7_layPlaces 57 = .ok (.iastore, 1) := by decide +kernel
theorem dX7_layPlaces_58 : decode cX7_layPlaces 58 = .ok (.aload_n 0, 1) := by decide +kernel
theorem dX7_layPlaces_59 : decode cX7_layPlaces 59 = .ok (.dup, 1) := by decide +kernel
theorem dX7_layPlaces_60 : decode cX7_layPlaces 60 = .ok (.getfield 184, 3) := by decide +kernel
theorem dX7_layPlaces_63 : decode cX7_layPlaces 63 = .ok (.iconst 1, 1) := by decide +kernel
theorem dX7_layPlaces_64 : decode cX7_layPlaces 64 = .ok (.iadd, 1) := by decide +kernel
theorem dX7_layPlaces_65 : decode cX7_layPlaces 65 = .ok (.putfield 184, 3) := by decide +kernel
theorem dX7_layPlaces_68 : decode cX7_layPlaces 68 = .ok (.iinc 1 1, 3) := by decide +kernel
theorem dX7_layPlaces_71 : decode cX7_layPlaces 71 = .ok (.goto (-56), 3) := by decide +kernel
theorem dX7_layPlaces_74 : decode cX7_layPlaces 74 = .ok (.iconst 0, 1) := by decide +kernel
theorem dX7_layPlaces_75 : decode cX7_layPlaces 75 = .ok (.istore_n 1, 1) := by decide +kernel
theorem dX7_layPlaces_76 : decode cX7_layPlaces 76 = .ok (.iload_n 1, 1) := by decide +kernel
theorem dX7_layPlaces_77 : decode cX7_layPlaces 77 = .ok (.aload_n 0, 1) := by decide +kernel
theorem dX7_layPlaces_78 : decode cX7_layPlaces 78 = .ok (.getfield 184, 3) := by decide +kernel
theorem dX7_layPlaces_81 : decode cX7_layPlaces 81 = .ok (.if_icmp .ge 87, 3) := by decide +kernel
theorem dX7_layPlaces_84 : decode cX7_layPlaces 84 = .ok (.iconst 0, 1) := by decide +kernel
theorem dX7_layPlaces_85 : decode cX7_layPlaces 85 = .ok (.istore_n 2, 1) := by decide +kernel
theorem dX7_layPlaces_86 : decode cX7_layPlaces 86 = .ok (.iload_n 2, 1) := by decide +kernel
theorem dX7_layPlaces_87 : decode cX7_layPlaces 87 = .ok (.iload_n 1, 1) := by decide +kernel
theorem dX7_layPlaces_88 : decode cX7_layPlaces 88 = .ok (.if_icmp .ge 74, 3) := by decide +kernel
theorem dX7_layPlaces_91 : decode cX7_layPlaces 91 = .ok (.aload_n 0, 1) := by decide +kernel
theorem dX7_layPlaces_92 : decode cX7_layPlaces 92 = .ok (.aload_n 0, 1) := by decide +kernel
theorem dX7_layPlaces_93 : decode cX7_layPlaces 93 = .ok (.getfield 44, 3) := by decide +kernel
theorem dX7_layPlaces_96 : decode cX7_layPlaces 96 = .ok (.iload_n 1, 1) := by decide +kernel
theorem dX7_layPlaces_97 : decode cX7_layPlaces 97 = .ok (.iaload, 1) := by decide +kernel
theorem dX7_layPlaces_98 : decode cX7_layPlaces 98 = .ok (.aload_n 0, 1) := by decide +kernel
theorem dX7_layPlaces_99 : decode cX7_layPlaces 99 = .ok (.getfield 44, 3) := by decide +kernel
theorem dX7_layPlaces_102 : decode cX7_layPlaces 102 = .ok (.iload_n 2, 1) := by decide +kernel
theorem dX7_layPlaces_103 : decode cX7_layPlaces 103 = .ok (.iaload, 1) := by decide +kernel
theorem dX7_layPlaces_104 : decode cX7_layPlaces 104 = .ok (.invokevirtual 187, 3) := by decide +kernel
theorem dX7_layPlaces_107 : decode cX7_layPlaces 107 = .ok (.ifCond .lt 8, 3) := by decide +kernel
theorem dX7_layPlaces_110 : decode cX7_layPlaces 110 = .ok (.ldc 127, 2) := by decide +kernel
theorem dX7_layPlaces_112 : decode cX7_layPlaces 112 = .ok (.goto 19, 3) := by decide +kernel
theorem dX7_layPlaces_115 : decode cX7_layPlaces 115 = .ok (.aload_n 0, 1) := by decide +kernel
theorem dX7_layPlaces_116 : decode cX7_layPlaces 116 = .ok (.aload_n 0, 1) := by decide +kernel
theorem dX7_layPlaces_117 : decode cX7_layPlaces 117 = .ok (.getfield 44, 3) := by decide +kernel
theorem dX7_layPlaces_120 : decode cX7_layPlaces 120 = .ok (.iload_n 1, 1) := by decide +kernel
theorem dX7_layPlaces_121 : decode cX7_layPlaces 121 = .ok (.iaload, 1) := by decide +kernel
theorem dX7_layPlaces_122 : decode cX7_layPlaces 122 = .ok (.aload_n 0, 1) := by decide +kernel
theorem dX7_layPlaces_123 : decode cX7_layPlaces 123 = .ok (.getfield 44, 3) := by decide +kernel
theorem dX7_layPlaces_126 : decode cX7_layPlaces 126 = .ok (.iload_n 2, 1) := by decide +kernel
theorem dX7_layPlaces_127 : decode cX7_layPlaces 127 = .ok (.iaload, 1) := by decide +kernel
theorem dX7_layPlaces_128 : decode cX7_layPlaces 128 = .ok (.invokevirtual 190, 3) := by decide +kernel
theorem dX7_layPlaces_131 : decode cX7_layPlaces 131 = .ok (.istore_n 3, 1) := by decide +kernel
theorem dX7_layPlaces_132 : decode cX7_layPlaces 132 = .ok (.aload_n 0, 1) := by decide +kernel
theorem dX7_layPlaces_133 : decode cX7_layPlaces 133 = .ok (.getfield 47, 3) := by decide +kernel
theorem dX7_layPlaces_136 : decode cX7_layPlaces 136 = .ok (.bipush 12, 2) := by decide +kernel
theorem dX7_layPlaces_138 : decode cX7_layPlaces 138 = .ok (.iload_n 1, 1) := by decide +kernel
theorem dX7_layPlaces_139 : decode cX7_layPlaces 139 = .ok (.imul, 1) := by decide +kernel
theorem dX7_layPlaces_140 : decode cX7_layPlaces 140 = .ok (.iload_n 2, 1) := by decide +kernel
theorem dX7_layPlaces_141 : decode cX7_layPlaces 141 = .ok (.iadd, 1) := by decide +kernel
theorem dX7_layPlaces_142 : decode cX7_layPlaces 142 = .ok (.iload_n 3, 1) := by decide +kernel
theorem dX7_layPlaces_143 : decode cX7_layPlaces 143 = .ok (.iastore, 1) := by decide +kernel
theorem dX7_layPlaces_144 : decode cX7_layPlaces 144 = .ok (.aload_n 0, 1) := by decide +kernel
theorem dX7_layPlaces_145 : decode cX7_layPlaces 145 = .ok (.getfield 47, 3) := by decide +kernel
theorem dX7_layPlaces_148 : decode cX7_layPlaces 148 = .ok (.bipush 12, 2) := by decide +kernel
theorem dX7_layPlaces_150 : decode cX7_layPlaces 150 = .ok (.iload_n 2, 1) := by decide +kernel
theorem dX7_layPlaces_151 : decode cX7_layPlaces 151 = .ok (.imul, 1) := by decide +kernel
theorem dX7_layPlaces_152 : decode cX7_layPlaces 152 = .ok (.iload_n 1, 1) := by decide +kernel
theorem dX7_layPlaces_153 : decode cX7_layPlaces 153 = .ok (.iadd, 1) := by decide +kernel
theorem dX7_layPlaces_154 : decode cX7_layPlaces 154 = .ok (.iload_n 3, 1) := by decide +kernel
theorem dX7_layPlaces_155 : decode cX7_layPlaces 155 = .ok (.iastore, 1) := by decide +kernel
theorem dX7_layPlaces_156 : decode cX7_layPlaces 156 = .ok (.iinc 2 1, 3) := by decide +kernel
theorem dX7_layPlaces_159 : decode cX7_layPlaces 159 = .ok (.goto (-73), 3) := by decide +kernel
theorem dX7_layPlaces_162 : decode cX7_layPlaces 162 = .ok (.iinc 1 1, 3) := by decide +kernel
theorem dX7_layPlaces_165 : decode cX7_layPlaces 165 = .ok (.goto (-89), 3) := by decide +kernel
theorem dX7_layPlaces_168 : decode cX7_layPlaces 168 = .ok (.return_, 1) := by decide +kernel
theorem dX7_leastBit_0 : decode cX7_leastBit 0 = .ok (.iconst 0, 1) := by decide +kernel
theorem dX7_leastBit_1 : decode cX7_leastBit 1 = .ok (.istore_n 1, 1) := by decide +kernel
theorem dX7_leastBit_2 : decode cX7_leastBit 2 = .ok (.iload_n 0, 1) := by decide +kernel
theorem dX7_leastBit_3 : decode cX7_leastBit 3 = .ok (.iload_n 1, 1) := by decide +kernel
theorem dX7_leastBit_4 : decode cX7_leastBit 4 = .ok (.ishr, 1) := by decide +kernel
theorem dX7_leastBit_5 : decode cX7_leastBit 5 = .ok (.iconst 1, 1) := by decide +kernel
theorem dX7_leastBit_6 : decode cX7_leastBit 6 = .ok (.iand, 1) := by decide +kernel
theorem dX7_leastBit_7 : decode cX7_leastBit 7 = .ok (.ifCond .ne 9, 3) := by decide +kernel
theorem dX7_leastBit_10 : decode cX7_leastBit 10 = .ok (.iinc 1 1, 3) := by decide +kernel
theorem dX7_leastBit_13 : decode cX7_leastBit 13 = .ok (.goto (-11), 3) := by decide +kernel
theorem dX7_leastBit_16 : decode cX7_leastBit 16 = .ok (.iload_n 1, 1) := by decide +kernel
theorem dX7_leastBit_17 : decode cX7_leastBit 17 = .ok (.ireturn, 1) := by decide +kernel
theorem dX7_layBests_0 : decode cX7_layBests 0 = .ok (.aload_n 0, 1) := by decide +kernel
theorem dX7_layBests_1 : decode cX7_layBests 1 = .ok (.invokevirtual 193, 3) := by decide +kernel
theorem dX7_layBests_4 : decode cX7_layBests 4 = .ok (.aload_n 0, 1) := by decide +kernel
theorem dX7_layBests_5 : decode cX7_layBests 5 = .ok (.getfield 50, 3) := by decide +kernel
theorem dX7_layBests_8 : decode cX7_layBests 8 = .ok (.iconst 0, 1) := by decide +kernel
theorem dX7_layBests_9 : decode cX7_layBests 9 = .ok (.iconst 0, 1) := by decide +kernel
theorem dX7_layBests_10 : decode cX7_layBests 10 = .ok (.iastore, 1) := by decide +kernel
theorem dX7_layBests_11 : decode cX7_layBests 11 = .ok (.aload_n 0, 1) := by decide +kernel
theorem dX7_layBests_12 : decode cX7_layBests 12 = .ok (.getfield 53, 3) := by decide +kernel
theorem dX7_layBests_15 : decode cX7_layBests 15 = .ok (.iconst 0, 1) := by decide +kernel
theorem dX7_layBests_16 : decode cX7_layBests 16 = .ok (.iconst 1, 1) := by decide +kernel
theorem dX7_layBests_17 : decode cX7_layBests 17 = .ok (.iastore, 1) := by decide +kernel
theorem dX7_layBests_18 : decode cX7_layBests 18 = .ok (.iconst 1, 1) := by decide +kernel
theorem dX7_layBests_19 : decode cX7_layBests 19 = .ok (.istore_n 1, 1) := by decide +kernel
theorem dX7_layBests_20 : decode cX7_layBests 20 = .ok (.iload_n 1, 1) := by decide +kernel
theorem dX7_layBests_21 : decode cX7_layBests 21 = .ok (.iconst 1, 1) := by decide +kernel
theorem dX7_layBests_22 : decode cX7_layBests 22 = .ok (.aload_n 0, 1) := by decide +kernel
theorem dX7_layBests_23 : decode cX7_layBests 23 = .ok (.getfield 184, 3) := by decide +kernel
theorem dX7_layBests_26 : decode cX7_layBests 26 = .ok (.ishl, 1) := by decide +kernel
theorem dX7_layBests_27 : decode cX7_layBests 27 = .ok (.if_icmp .ge 152, 3) := by decide +kernel
theorem dX7_layBests_30 : decode cX7_layBests 30 = .ok (.iload_n 1, 1) := by decide +kernel
theorem dX7_layBests_31 : decode cX7_layBests 31 = .ok (.invokestatic 196, 3) := by decide +kernel
theorem dX7_layBests_34 : decode cX7_layBests 34 = .ok (.istore_n 2, 1) := by decide +kernel
theorem dX7_layBests_35 : decode cX7_layBests 35 = .ok (.aload_n 0, 1) := by decide +kernel
theorem dX7_layBests_36 : decode cX7_layBests 36 = .ok (.getfield 50, 3) := by decide +kernel
theorem dX7_layBests_39 : decode cX7_layBests 39 = .ok (.iload_n 1, 1) := by decide +kernel
theorem dX7_layBests_40 : decode cX7_layBests 40 = .ok (.ldc 127, 2) := by decide +kernel
theorem dX7_layBests_42 : decode cX7_layBests 42 = .ok (.iastore, 1) := by decide +kernel
theorem dX7_layBests_43 : decode cX7_layBests 43 = .ok (.aload_n 0, 1) := by decide +kernel
theorem dX7_layBests_44 : decode cX7_layBests 44 = .ok (.getfield 53, 3) := by decide +kernel
theorem dX7_layBests_47 : decode cX7_layBests 47 = .ok (.iload_n 1, 1) := by decide +kernel
theorem dX7_layBests_48 : decode cX7_layBests 48 = .ok (.iconst 0, 1) := by decide +kernel
theorem dX7_layBests_49 : decode cX7_layBests 49 = .ok (.iastore, 1) := by decide +kernel
theorem dX7_layBests_50 : decode cX7_layBests 50 = .ok (.iload_n 2, 1) := by decide +kernel
theorem dX7_layBests_51 : decode cX7_layBests 51 = .ok (.iconst 1, 1) := by decide +kernel
theorem dX7_layBests_52 : decode cX7_layBests 52 = .ok (.iadd, 1) := by decide +kernel
theorem dX7_layBests_53 : decode cX7_layBests 53 = .ok (.istore_n 3, 1) := by decide +kernel
theorem dX7_layBests_54 : decode cX7_layBests 54 = .ok (.iload_n 3, 1) := by decide +kernel
theorem dX7_layBests_55 : decode cX7_layBests 55 = .ok (.aload_n 0, 1) := by decide +kernel
theorem dX7_layBests_56 : decode cX7_layBests 56 = .ok (.getfield 184, 3) := by decide +kernel
theorem dX7_layBests_59 : decode cX7_layBests 59 = .ok (.if_icmp .ge 114, 3) := by decide +kernel
theorem dX7_layBests_62 : decode cX7_layBests 62 = .ok (.iload_n 1, 1) := by decide +kernel
theorem dX7_layBests_63 : decode cX7_layBests 63 = .ok (.iconst 1, 1) := by decide +kernel
theorem dX7_layBests_64 : decode cX7_layBests 64 = .ok (.iload_n 2, 1) := by decide +kernel
theorem dX7_layBests_65 : decode cX7_layBests 65 = .ok (.ishl, 1) := by decide +kernel
theorem dX7_layBests_66 : decode cX7_layBests 66 = .ok (.iconst (-1), 1) := by decide +kernel
theorem dX7_layBests_67 : decode cX7_layBests 67 = .ok (.ixor, 1) := by decide +kernel
theorem dX7_layBests_68 : decode cX7_layBests 68 = .ok (.iand, 1) := by decide +kernel
theorem dX7_layBests_69 : decode cX7_layBests 69 = .ok (.iconst 1, 1) := by decide +kernel
theorem dX7_layBests_70 : decode cX7_layBests 70 = .ok (.iload_n 3, 1) := by decide +kernel
theorem dX7_layBests_71 : decode cX7_layBests 71 = .ok (.ishl, 1) := by decide +kernel
theorem dX7_layBests_72 : decode cX7_layBests 72 = .ok (.iconst (-1), 1) := by decide +kernel
theorem dX7_layBests_73 : decode cX7_layBests 73 = .ok (.ixor, 1) := by decide +kernel
theorem dX7_layBests_74 : decode cX7_layBests 74 = .ok (.iand, 1) := by decide +kernel
theorem dX7_layBests_75 : decode cX7_layBests 75 = .ok (.istore 4, 2) := by decide +kernel
theorem dX7_layBests_77 : decode cX7_layBests 77 = .ok (.iload_n 1, 1) := by decide +kernel
theorem dX7_layBests_78 : decode cX7_layBests 78 = .ok (.iload_n 3, 1) := by decide +kernel
theorem dX7_layBests_79 : decode cX7_layBests 79 = .ok (.ishr, 1) := by decide +kernel
theorem dX7_layBests_80 : decode cX7_layBests 80 = .ok (.iconst 1, 1) := by decide +kernel
theorem dX7_layBests_81 : decode cX7_layBests 81 = .ok (.iand, 1) := by decide +kernel
theorem dX7_layBests_82 : decode cX7_layBests 82 = .ok (.iconst 1, 1) := by decide +kernel
theorem dX7_layBests_83 : decode cX7_layBests 83 = .ok (.if_icmp .ne 84, 3) := by decide +kernel
theorem dX7_layBests_86 : decode cX7_layBests 86 = .ok (.aload_n 0, 1) := by decide +kernel
theorem dX7_layBests_87 : decode cX7_layBests 87 = .ok (.getfield 47, 3) := by decide +kernel
theorem dX7_layBests_90 : decode cX7_layBests 90 = .ok (.bipush 12, 2) := by decide +kernel
theorem dX7_layBests_92 : decode cX7_layBests 92 = .ok (.iload_n 2, 1) := by decide +kernel
theorem dX7_layBests_93 : decode cX7_layBests 93 = .ok (.imul, 1) := by decide +kernel
theorem dX7_layBests_94 : decode cX7_layBests 94 = .ok (.iload_n 3, 1) := by decide +kernel
theorem dX7_layBests_95 : decode cX7_layBests 95 = .ok (.iadd, 1) := by decide +kernel
theorem dX7_layBests_96 : decode cX7_layBests 96 = .ok (.iaload, 1) := by decide +kernel
theorem dX7_layBests_97 : decode cX7_layBests 97 = .ok (.ldc 127, 2) := by decide +kernel
theorem dX7_layBests_99 : decode cX7_layBests 99 = .ok (.if_icmp .ge 68, 3) := by decide +kernel
theorem dX7_layBests_102 : decode cX7_layBests 102 = .ok (.aload_n 0, 1) := by decide +kernel
theorem dX7_layBests_103 : decode cX7_layBests 103 = .ok (.getfield 50, 3) := by decide +kernel
theorem dX7_layBests_106 : decode cX7_layBests 106 = .ok (.iload 4, 2) := by decide +kernel
theorem dX7_layBests_108 : decode cX7_layBests 108 = .ok (.iaload, 1) := by decide +kernel
theorem dX7_layBests_109 : decode cX7_layBests 109 = .ok (.aload_n 0, 1) := by decide +kernel
theorem dX7_layBests_110 : decode cX7_layBests 110 = .ok (.getfield 47, 3) := by decide +kernel
theorem dX7_layBests_113 : decode cX7_layBests 113 = .ok (.bipush 12, 2) := by decide +kernel
theorem dX7_layBests_115 : decode cX7_layBests 115 = .ok (.iload_n 2, 1) := by decide +kernel
theorem dX7_layBests_116 : decode cX7_layBests 116 = .ok (.imul, 1) := by decide +kernel
theorem dX7_layBests_117 : decode cX7_layBests 117 = .ok (.iload_n 3, 1) := by decide +kernel
theorem dX7_layBests_118 : decode cX7_layBests 118 = .ok (.iadd, 1) := by decide +kernel
theorem dX7_layBests_119 : decode cX7_layBests 119 = .ok (.iaload, 1) := by decide +kernel
theorem dX7_layBests_120 : decode cX7_layBests 120 = .ok (.iadd, 1) := by decide +kernel
theorem dX7_layBests_121 : decode cX7_layBests 121 = .ok (.istore 5, 2) := by decide +kernel
theorem dX7_layBests_123 : decode cX7_layBests 123 = .ok (.aload_n 0, 1) := by decide +kernel
theorem dX7_layBests_124 : decode cX7_layBests 124 = .ok (.getfield 50, 3) := by decide +kernel
theorem dX7_layBests_127 : decode cX7_layBests 127 = .ok (.iload_n 1, 1) := by decide +kernel
theorem dX7_layBests_128 : decode cX7_layBests 128 = .ok (.iload 5, 2) := by decide +kernel
theorem dX7_layBests_130 : decode cX7_layBests 130 = .ok (.aload_n 0, 1) := by decide +kernel
theorem dX7_layBests_131 : decode cX7_layBests 131 = .ok (.getfield 50, 3) := by decide +kernel
theorem dX7_layBests_134 : decode cX7_layBests 134 = .ok (.iload_n 1, 1) := by decide +kernel
theorem dX7_layBests_135 : decode cX7_layBests 135 = .ok (.iaload, 1) := by decide +kernel
theorem dX7_layBests_136 : decode cX7_layBests 136 = .ok (.if_icmp .ge 8, 3) := by decide +kernel
theorem dX7_layBests_139 : decode cX7_layBests 139 = .ok (.iload 5, 2) := by decide +kernel
theorem dX7_layBests_141 : decode cX7_layBests 141 = .ok (.goto 9, 3) := by decide +kernel
theorem dX7_layBests_144 : decode cX7_layBests 144 = .ok (.aload_n 0, 1) := by decide +kernel
theorem dX7_layBests_145 : decode cX7_layBests 145 = .ok (.getfield 50, 3) := by decide +kernel
theorem dX7_layBests_148 : decode cX7_layBests 148 = .ok (.iload_n 1, 1) := by decide +kernel
theorem dX7_layBests_149 : decode cX7_layBests 149 = .ok (.iaload, 1) := by decide +kernel
theorem dX7_layBests_150 : decode cX7_layBests 150 = .ok (.iastore, 1) := by decide +kernel
theorem dX7_layBests_151 : decode cX7_layBests 151 = .ok (.aload_n 0, 1) := by decide +kernel
theorem dX7_layBests_152 : decode cX7_layBests 152 = .ok (.getfield 53, 3) := by decide +kernel
theorem dX7_layBests_155 : decode cX7_layBests 155 = .ok (.iload_n 1, 1) := by decide +kernel
theorem dX7_layBests_156 : decode cX7_layBests 156 = .ok (.dup2, 1) := by decide +kernel
theorem dX7_layBests_157 : decode cX7_layBests 157 = .ok (.iaload, 1) := by decide +kernel
theorem dX7_layBests_158 : decode cX7_layBests 158 = .ok (.aload_n 0, 1) := by decide +kernel
theorem dX7_layBests_159 : decode cX7_layBests 159 = .ok (.getfield 53, 3) := by decide +kernel
theorem dX7_layBests_162 : decode cX7_layBests 162 = .ok (.iload 4, 2) := by decide +kernel
theorem dX7_layBests_164 : decode cX7_layBests 164 = .ok (.iaload, 1) := by decide +kernel
theorem dX7_layBests_165 : decode cX7_layBests 165 = .ok (.iadd, 1) := by decide +kernel
theorem dX7_layBests_166 : decode cX7_layBests 166 = .ok (.iastore, 1) := by decide +kernel
theorem dX7_layBests_167 : decode cX7_layBests 167 = .ok (.iinc 3 1, 3) := by decide +kernel
theorem dX7_layBests_170 : decode cX7_layBests 170 = .ok (.goto (-116), 3) := by decide +kernel
theorem dX7_layBests_173 : decode cX7_layBests 173 = .ok (.iinc 1 1, 3) := by decide +kernel
theorem dX7_layBests_176 : decode cX7_layBests 176 = .ok (.goto (-156), 3) := by decide +kernel
theorem dX7_layBests_179 : decode cX7_layBests 179 = .ok (.return_, 1) := by decide +kernel
theorem dX7_isWhite_0 : decode cX7_isWhite 0 = .ok (.aload_n 0, 1) := by decide +kernel
theorem dX7_isWhite_1 : decode cX7_isWhite 1 = .ok (.iload_n 1, 1) := by decide +kernel
theorem dX7_isWhite_2 : decode cX7_isWhite 2 = .ok (.invokevirtual 160, 3) := by decide +kernel
theorem dX7_isWhite_5 : decode cX7_isWhite 5 = .ok (.istore 4, 2) := by decide +kernel
theorem dX7_isWhite_7 : decode cX7_isWhite 7 = .ok (.aload_n 0, 1) := by decide +kernel
theorem dX7_isWhite_8 : decode cX7_isWhite 8 = .ok (.iload_n 2, 1) := by decide +kernel
theorem dX7_isWhite_9 : decode cX7_isWhite 9 = .ok (.invokevirtual 160, 3) := by decide +kernel
theorem dX7_isWhite_12 : decode cX7_isWhite 12 = .ok (.istore 5, 2) := by decide +kernel
theorem dX7_isWhite_14 : decode cX7_isWhite 14 = .ok (.iload 4, 2) := by decide +kernel
theorem dX7_isWhite_16 : decode cX7_isWhite 16 = .ok (.iload 5, 2) := by decide +kernel
theorem dX7_isWhite_18 : decode cX7_isWhite 18 = .ok (.if_icmp .eq 16, 3) := by decide +kernel
theorem dX7_isWhite_21 : decode cX7_isWhite 21 = .ok (.iload 4, 2) := by decide +kernel
theorem dX7_isWhite_23 : decode cX7_isWhite 23 = .ok (.iload 5, 2) := by decide +kernel
theorem dX7_isWhite_25 : decode cX7_isWhite 25 = .ok (.if_icmp .ge 7, 3) := by decide +kernel
theorem dX7_isWhite_28 : decode cX7_isWhite 28 = .ok (.iconst 1, 1) := by decide +kernel
theorem dX7_isWhite_29 : decode cX7_isWhite 29 = .ok (.goto 4, 3) := by decide +kernel
theorem dX7_isWhite_32 : decode cX7_isWhite 32 = .ok (.iconst 0, 1) := by decide +kernel
theorem dX7_isWhite_33 : decode cX7_isWhite 33 = .ok (.ireturn, 1) := by decide +kernel
theorem dX7_isWhite_34 : decode cX7_isWhite 34 = .ok (.aload_n 0, 1) := by decide +kernel
theorem dX7_isWhite_35 : decode cX7_isWhite 35 = .ok (.iload_n 1, 1) := by decide +kernel
theorem dX7_isWhite_36 : decode cX7_isWhite 36 = .ok (.invokevirtual 163, 3) := by decide +kernel
theorem dX7_isWhite_39 : decode cX7_isWhite 39 = .ok (.iconst 1, 1) := by decide +kernel
theorem dX7_isWhite_40 : decode cX7_isWhite 40 = .ok (.if_icmp .ne 7, 3) := by decide +kernel
theorem dX7_isWhite_43 : decode cX7_isWhite 43 = .ok (.iconst 1, 1) := by decide +kernel
theorem dX7_isWhite_44 : decode cX7_isWhite 44 = .ok (.goto 4, 3) := by decide +kernel
theorem dX7_isWhite_47 : decode cX7_isWhite 47 = .ok (.iconst 0, 1) := by decide +kernel
theorem dX7_isWhite_48 : decode cX7_isWhite 48 = .ok (.istore 6, 2) := by decide +kernel
theorem dX7_isWhite_50 : decode cX7_isWhite 50 = .ok (.aload_n 0, 1) := by decide +kernel
theorem dX7_isWhite_51 : decode cX7_isWhite 51 = .ok (.iload_n 2, 1) := by decide +kernel
theorem dX7_isWhite_52 : decode cX7_isWhite 52 = .ok (.invokevirtual 163, 3) := by decide +kernel
theorem dX7_isWhite_55 : decode cX7_isWhite 55 = .ok (.iconst 1, 1) := by decide +kernel
theorem dX7_isWhite_56 : decode cX7_isWhite 56 = .ok (.if_icmp .ne 7, 3) := by decide +kernel
theorem dX7_isWhite_59 : decode cX7_isWhite 59 = .ok (.iconst 1, 1) := by decide +kernel
theorem dX7_isWhite_60 : decode cX7_isWhite 60 = .ok (.goto 4, 3) := by decide +kernel
theorem dX7_isWhite_63 : decode cX7_isWhite 63 = .ok (.iconst 0, 1) := by decide +kernel
theorem dX7_isWhite_64 : decode cX7_isWhite 64 = .ok (.istore 7, 2) := by decide +kernel
theorem dX7_isWhite_66 : decode cX7_isWhite 66 = .ok (.iload 6, 2) := by decide +kernel
theorem dX7_isWhite_68 : decode cX7_isWhite 68 = .ok (.iload 7, 2) := by decide +kernel
theorem dX7_isWhite_70 : decode cX7_isWhite 70 = .ok (.if_icmp .eq 8, 3) := by decide +kernel
theorem dX7_isWhite_73 : decode cX7_isWhite 73 = .ok (.iload 6, 2) := by decide +kernel
theorem dX7_isWhite_75 : decode cX7_isWhite 75 = .ok (.goto 14, 3) := by decide +kernel
theorem dX7_isWhite_78 : decode cX7_isWhite 78 = .ok (.iload_n 3, 1) := by decide +kernel
theorem dX7_isWhite_79 : decode cX7_isWhite 79 = .ok (.iconst 2, 1) := by decide +kernel
theorem dX7_isWhite_80 : decode cX7_isWhite 80 = .ok (.irem, 1) := by decide +kernel
theorem dX7_isWhite_81 : decode cX7_isWhite 81 = .ok (.ifCond .ne 7, 3) := by decide +kernel
theorem dX7_isWhite_84 : decode cX7_isWhite 84 = .ok (.iconst 1, 1) := by decide +kernel
theorem dX7_isWhite_85 : decode cX7_isWhite 85 = .ok (.goto 4, 3) := by decide +kernel
theorem dX7_isWhite_88 : decode cX7_isWhite 88 = .ok (.iconst 0, 1) := by decide +kernel
theorem dX7_isWhite_89 : decode cX7_isWhite 89 = .ok (.ireturn, 1) := by decide +kernel
theorem dX7_putBoard_0 : decode cX7_putBoard 0 = .ok (.bipush 6, 2) := by decide +kernel
theorem dX7_putBoard_2 : decode cX7_putBoard 2 = .ok (.iload_n 1, 1) := by decide +kernel
theorem dX7_putBoard_3 : decode cX7_putBoard 3 = .ok (.imul, 1) := by decide +kernel
theorem dX7_putBoard_4 : decode cX7_putBoard 4 = .ok (.aload_n 0, 1) := by decide +kernel
theorem dX7_putBoard_5 : decode cX7_putBoard 5 = .ok (.getfield 16, 3) := by decide +kernel
theorem dX7_putBoard_8 : decode cX7_putBoard 8 = .ok (.iload_n 1, 1) := by decide +kernel
theorem dX7_putBoard_9 : decode cX7_putBoard 9 = .ok (.iaload, 1) := by decide +kernel
theorem dX7_putBoard_10 : decode cX7_putBoard 10 = .ok (.iadd, 1) := by decide +kernel
theorem dX7_putBoard_11 : decode cX7_putBoard 11 = .ok (.istore 4, 2) := by decide +kernel
theorem dX7_putBoard_13 : decode cX7_putBoard 13 = .ok (.aload_n 0, 1) := by decide +kernel
theorem dX7_putBoard_14 : decode cX7_putBoard 14 = .ok (.iload_n 2, 1) := by decide +kernel
theorem dX7_putBoard_15 : decode cX7_putBoard 15 = .ok (.iload_n 3, 1) := by decide +kernel
theorem dX7_putBoard_16 : decode cX7_putBoard 16 = .ok (.aload_n 0, 1) := by decide +kernel
theorem dX7_putBoard_17 : decode cX7_putBoard 17 = .ok (.getfield 16, 3) := by decide +kernel
theorem dX7_putBoard_20 : decode cX7_putBoard 20 = .ok (.iload_n 1, 1) := by decide +kernel
theorem dX7_putBoard_21 : decode cX7_putBoard 21 = .ok (.iaload, 1) := by decide +kernel
theorem dX7_putBoard_22 : decode cX7_putBoard 22 = .ok (.invokevirtual 199, 3) := by decide +kernel
theorem dX7_putBoard_25 : decode cX7_putBoard 25 = .ok (.istore 5, 2) := by decide +kernel
theorem dX7_putBoard_27 : decode cX7_putBoard 27 = .ok (.aload_n 0, 1) := by decide +kernel
theorem dX7_putBoard_28 : decode cX7_putBoard 28 = .ok (.getfield 22, 3) := by decide +kernel
theorem dX7_putBoard_31 : decode cX7_putBoard 31 = .ok (.iload 4, 2) := by decide +kernel
theorem dX7_putBoard_33 : decode cX7_putBoard 33 = .ok (.iload 5, 2) := by decide +kernel
theorem dX7_putBoard_35 : decode cX7_putBoard 35 = .ok (.ifCond .eq 7, 3) := by decide +kernel
theorem dX7_putBoard_38 : decode cX7_putBoard 38 = .ok (.iload_n 2, 1) := by decide +kernel
theorem dX7_putBoard_39 : decode cX7_putBoard 39 = .ok (.goto 4, 3) := by decide +kernel
theorem dX7_putBoard_42 : decode cX7_putBoard 42 = .ok (.iload_n 3, 1) := by decide +kernel
theorem dX7_putBoard_43 : decode cX7_putBoard 43 = .ok (.iastore, 1) := by decide +kernel
theorem dX7_putBoard_44 : decode cX7_putBoard 44 = .ok (.aload_n 0, 1) := by decide +kernel
theorem dX7_putBoard_45 : decode cX7_putBoard 45 = .ok (.getfield 25, 3) := by decide +kernel
theorem dX7_putBoard_48 : decode cX7_putBoard 48 = .ok (.iload 4, 2) := by decide +kernel
theorem dX7_putBoard_50 : decode cX7_putBoard 50 = .ok (.iload 5, 2) := by decide +kernel
theorem dX7_putBoard_52 : decode cX7_putBoard 52 = .ok (.ifCond .eq 7, 3) := by decide +kernel
theorem dX7_putBoard_55 : decode cX7_putBoard 55 = .ok (.iload_n 3, 1) := by decide +kernel
theorem dX7_putBoard_56 : decode cX7_putBoard 56 = .ok (.goto 4, 3) := by decide +kernel
theorem dX7_putBoard_59 : decode cX7_putBoard 59 = .ok (.iload_n 2, 1) := by decide +kernel
theorem dX7_putBoard_60 : decode cX7_putBoard 60 = .ok (.iastore, 1) := by decide +kernel
theorem dX7_putBoard_61 : decode cX7_putBoard 61 = .ok (.aload_n 0, 1) := by decide +kernel
theorem dX7_putBoard_62 : decode cX7_putBoard 62 = .ok (.getfield 28, 3) := by decide +kernel
theorem dX7_putBoard_65 : decode cX7_putBoard 65 = .ok (.iload 4, 2) := by decide +kernel
theorem dX7_putBoard_67 : decode cX7_putBoard 67 = .ok (.iconst 0, 1) := by decide +kernel
theorem dX7_putBoard_68 : decode cX7_putBoard 68 = .ok (.iastore, 1) := by decide +kernel
theorem dX7_putBoard_69 : decode cX7_putBoard 69 = .ok (.aload_n 0, 1) := by decide +kernel
theorem dX7_putBoard_70 : decode cX7_putBoard 70 = .ok (.getfield 16, 3) := by decide +kernel
theorem dX7_putBoard_73 : decode cX7_putBoard 73 = .ok (.iload_n 1, 1) := by decide +kernel
theorem dX7_putBoard_74 : decode cX7_putBoard 74 = .ok (.dup2, 1) := by decide +kernel
theorem dX7_putBoard_75 : decode cX7_putBoard 75 = .ok (.iaload, 1) := by decide +kernel
theorem dX7_putBoard_76 : decode cX7_putBoard 76 = .ok (.iconst 1, 1) := by decide +kernel
theorem dX7_putBoard_77 : decode cX7_putBoard 77 = .ok (.iadd, 1) := by decide +kernel
theorem dX7_putBoard_78 : decode cX7_putBoard 78 = .ok (.iastore, 1) := by decide +kernel
theorem dX7_putBoard_79 : decode cX7_putBoard 79 = .ok (.return_, 1) := by decide +kernel
theorem dX7_earliestWith_0 : decode cX7_earliestWith 0 = .ok (.iload_n 1, 1) := by decide +kernel
theorem dX7_earliestWith_1 : decode cX7_earliestWith 1 = .ok (.invokestatic 196, 3) := by decide +kernel
theorem dX7_earliestWith_4 : decode cX7_earliestWith 4 = .ok (.istore_n 2, 1) := by decide +kernel
theorem dX7_earliestWith_5 : decode cX7_earliestWith 5 = .ok (.iconst (-1), 1) := by decide +kernel
theorem dX7_earliestWith_6 : decode cX7_earliestWith 6 = .ok (.istore_n 3, 1) := by decide +kernel
theorem dX7_earliestWith_7 : decode cX7_earliestWith 7 = .ok (.aload_n 0, 1) := by decide +kernel
theorem dX7_earliestWith_8 : decode cX7_earliestWith 8 = .ok (.getfield 184, 3) := by decide +kernel
theorem dX7_earliestWith_11 : decode cX7_earliestWith 11 = .ok (.iconst 1, 1) := by decide +kernel
theorem dX7_earliestWith_12 : decode cX7_earliestWith 12 = .ok (.isub, 1) := by decide +kernel
theorem dX7_earliestWith_13 : decode cX7_earliestWith 13 = .ok (.istore 4, 2) := by decide +kernel
theorem dX7_earliestWith_15 : decode cX7_earliestWith 15 = .ok (.iload 4, 2) := by decide +kernel
theorem dX7_earliestWith_17 : decode cX7_earliestWith 17 = .ok (.iload_n 2, 1) := by decide +kernel
theorem dX7_earliestWith_18 : decode cX7_earliestWith 18 = .ok (.if_icmp .le 100, 3) := by decide +kernel
theorem dX7_earliestWith_21 : decode cX7_earliestWith 21 = .ok (.iload_n 1, 1) := by decide +kernel
theorem dX7_earliestWith_22 : decode cX7_earliestWith 22 = .ok (.iload 4, 2) := by decide +kernel
theorem dX7_earliestWith_24 : decode cX7_earliestWith 24 = .ok (.ishr, 1) := by decide +kernel
theorem dX7_earliestWith_25 : decode cX7_earliestWith 25 = .ok (.iconst 1, 1) := by decide +kernel
theorem dX7_earliestWith_26 : decode cX7_earliestWith 26 = .ok (.iand, 1) := by decide +kernel
theorem dX7_earliestWith_27 : decode cX7_earliestWith 27 = .ok (.iconst 1, 1) := by decide +kernel
theorem dX7_earliestWith_28 : decode cX7_earliestWith 28 = .ok (.if_icmp .ne 24, 3) := by decide +kernel
theorem dX7_earliestWith_31 : decode cX7_earliestWith 31 = .ok (.aload_n 0, 1) := by decide +kernel
theorem dX7_earliestWith_32 : decode cX7_earliestWith 32 = .ok (.getfield 47, 3) := by decide +kernel
theorem dX7_earliestWith_35 : decode cX7_earliestWith 35 = .ok (.bipush 12, 2) := by decide +kernel
theorem dX7_earliestWith_37 : decode cX7_earliestWith 37 = .ok (.iload_n 2, 1) := by decide +kernel
theorem dX7_earliestWith_38 : decode cX7_earliestWith 38 = .ok (.imul, 1) := by decide +kernel
theorem dX7_earliestWith_39 : decode cX7_earliestWith 39 = .ok (.iload 4, 2) := by decide +kernel
theorem dX7_earliestWith_41 : decode cX7_earliestWith 41 = .ok (.iadd, 1) := by decide +kernel
theorem dX7_earliestWith_42 : decode cX7_earliestWith 42 = .ok (.iaload, 1) := by decide +kernel
theorem dX7_earliestWith_43 : decode cX7_earliestWith 43 = .ok (.ldc 127, 2) := by decide +kernel
theorem dX7_earliestWith_45 : decode cX7_earliestWith 45 = .ok (.if_icmp .ge 7, 3) := by decide +kernel
theorem dX7_earliestWith_48 : decode cX7_earliestWith 48 = .ok (.iconst 1, 1) := by decide +kernel
theorem dX7_earliestWith_49 : decode cX7_earliestWith 49 = .ok (.goto 4, 3) := by decide +kernel
theorem dX7_earliestWith_52 : decode cX7_earliestWith 52 = .ok (.iconst 0, 1) := by decide +kernel
theorem dX7_earliestWith_53 : decode cX7_earliestWith 53 = .ok (.istore 5, 2) := by decide +kernel
theorem dX7_earliestWith_55 : decode cX7_earliestWith 55 = .ok (.iload_n 1, 1) := by decide +kernel
theorem dX7_earliestWith_56 : decode cX7_earliestWith 56 = .ok (.iconst 1, 1) := by decide +kernel
theorem dX7_earliestWith_57 : decode cX7_earliestWith 57 = .ok (.iload_n 2, 1) := by decide +kernel
theorem dX7_earliestWith_58 : decode cX7_earliestWith 58 = .ok (.ishl, 1) := by decide +kernel
theorem dX7_earliestWith_59 : decode cX7_earliestWith 59 = .ok (.iconst (-1), 1) := by decide +kernel
theorem dX7_earliestWith_60 : decode cX7_earliestWith 60 = .ok (.ixor, 1) := by decide +kernel
theorem dX7_earliestWith_61 : decode cX7_earliestWith 61 = .ok (.iand, 1) := by decide +kernel
theorem dX7_earliestWith_62 : decode cX7_earliestWith 62 = .ok (.iconst 1, 1) := by decide +kernel
theorem dX7_earliestWith_63 : decode cX7_earliestWith 63 = .ok (.iload 4, 2) := by decide +kernel
theorem dX7_earliestWith_65 : decode cX7_earliestWith 65 = .ok (.ishl, 1) := by decide +kernel
theorem dX7_earliestWith_66 : decode cX7_earliestWith 66 = .ok (.iconst (-1), 1) := by decide +kernel
theorem dX7_earliestWith_67 : decode cX7_earliestWith 67 = .ok (.ixor, 1) := by decide +kernel
theorem dX7_earliestWith_68 : decode cX7_earliestWith 68 = .ok (.iand, 1) := by decide +kernel
theorem dX7_earliestWith_69 : decode cX7_earliestWith 69 = .ok (.istore 6, 2) := by decide +kernel
theorem dX7_earliestWith_71 : decode cX7_earliestWith 71 = .ok (.iload 5, 2) := by decide +kernel
theorem dX7_earliestWith_73 : decode cX7_earliestWith 73 = .ok (.ifCond .eq 37, 3) := by decide +kernel
theorem dX7_earliestWith_76 : decode cX7_earliestWith 76 = .ok (.aload_n 0, 1) := by decide +kernel
theorem dX7_earliestWith_77 : decode cX7_earliestWith 77 = .ok (.getfield 50, 3) := by decide +kernel
theorem dX7_earliestWith_80 : decode cX7_earliestWith 80 = .ok (.iload 6, 2) := by decide +kernel
theorem dX7_earliestWith_82 : decode cX7_earliestWith 82 = .ok (.iaload, 1) := by decide +kernel
theorem dX7_earliestWith_83 : decode cX7_earliestWith 83 = .ok (.aload_n 0, 1) := by decide +kernel
theorem dX7_earliestWith_84 : decode cX7_earliestWith 84 = .ok (.getfield 47, 3) := by decide +kernel
theorem dX7_earliestWith_87 : decode cX7_earliestWith 87 = .ok (.bipush 12, 2) := by decide +kernel
theorem dX7_earliestWith_89 : decode cX7_earliestWith 89 = .ok (.iload_n 2, 1) := by decide +kernel
theorem dX7_earliestWith_90 : decode cX7_earliestWith 90 = .ok (.imul, 1) := by decide +kernel
theorem dX7_earliestWith_91 : decode cX7_earliestWith 91 = .ok (.iload 4, 2) := by decide +kernel
theorem dX7_earliestWith_93 : decode cX7_earliestWith 93 = .ok (.iadd, 1) := by decide +kernel
theorem dX7_earliestWith_94 : decode cX7_earliestWith 94 = .ok (.iaload, 1) := by decide +kernel
theorem dX7_earliestWith_95 : decode cX7_earliestWith 95 = .ok (.iadd, 1) := by decide +kernel
theorem dX7_earliestWith_96 : decode cX7_earliestWith 96 = .ok (.aload_n 0, 1) := by decide +kernel
theorem dX7_earliestWith_97 : decode cX7_earliestWith 97 = .ok (.getfield 50, 3) := by decide +kernel
theorem dX7_earliestWith_100 : decode cX7_earliestWith 100 = .ok (.iload_n 1, 1) := by decide +kernel
theorem dX7_earliestWith_101 : decode cX7_earliestWith 101 = .ok (.iaload, 1) := by decide +kernel
theorem dX7_earliestWith_102 : decode cX7_earliestWith 102 = .ok (.if_icmp .ne 8, 3) := by decide +kernel
theorem dX7_earliestWith_105 : decode cX7_earliestWith 105 = .ok (.iload 4, 2) := by decide +kernel
theorem dX7_earliestWith_107 : decode cX7_earliestWith 107 = .ok (.goto 4, 3) := by decide +kernel
theorem dX7_earliestWith_110 : decode cX7_earliestWith 110 = .ok (.iload_n 3, 1) := by decide +kernel
theorem dX7_earliestWith_111 : decode cX7_earliestWith 111 = .ok (.istore_n 3, 1) := by decide +kernel
theorem dX7_earliestWith_112 : decode cX7_earliestWith 112 = .ok (.iinc 4 (-1), 3) := by decide +kernel
theorem dX7_earliestWith_115 : decode cX7_earliestWith 115 = .ok (.goto (-100), 3) := by decide +kernel
theorem dX7_earliestWith_118 : decode cX7_earliestWith 118 = .ok (.iload_n 3, 1) := by decide +kernel
theorem dX7_earliestWith_119 : decode cX7_earliestWith 119 = .ok (.ireturn, 1) := by decide +kernel
theorem dX7_wrongPairing_0 : decode cX7_wrongPairing 0 = .ok (.aload_n 0, 1) := by decide +kernel
theorem dX7_wrongPairing_1 : decode cX7_wrongPairing 1 = .ok (.getfield 92, 3) := by decide +kernel
theorem dX7_wrongPairing_4 : decode cX7_wrongPairing 4 = .ok (.iconst 1, 1) := by decide +kernel
theorem dX7_wrongPairing_5 : decode cX7_wrongPairing 5 = .ok (.if_icmp .ne 8, 3) := by decide +kernel
theorem dX7_wrongPairing_8 : decode cX7_wrongPairing 8 = .ok (.bipush (-3), 2) := by decide +kernel
theorem dX7_wrongPairing_10 : decode cX7_wrongPairing 10 = .ok (.goto 17, 3) := by decide +kernel
theorem dX7_wrongPairing_13 : decode cX7_wrongPairing 13 = .ok (.aload_n 0, 1) := by decide +kernel
theorem dX7_wrongPairing_14 : decode cX7_wrongPairing 14 = .ok (.invokevirtual 175, 3) := by decide +kernel
theorem dX7_wrongPairing_17 : decode cX7_wrongPairing 17 = .ok (.iconst 2, 1) := by decide +kernel
theorem dX7_wrongPairing_18 : decode cX7_wrongPairing 18 = .ok (.if_icmp .ge 8, 3) := by decide +kernel
theorem dX7_wrongPairing_21 : decode cX7_wrongPairing 21 = .ok (.bipush (-2), 2) := by decide +kernel
theorem dX7_wrongPairing_23 : decode cX7_wrongPairing 23 = .ok (.goto 4, 3) := by decide +kernel
theorem dX7_wrongPairing_26 : decode cX7_wrongPairing 26 = .ok (.iconst 0, 1) := by decide +kernel
theorem dX7_wrongPairing_27 : decode cX7_wrongPairing 27 = .ok (.ireturn, 1) := by decide +kernel
theorem dX7_pair_0 : decode cX7_pair 0 = .ok (.aload_n 0, 1) := by decide +kernel
theorem dX7_pair_1 : decode cX7_pair 1 = .ok (.iconst 0, 1) := by decide +kernel
theorem dX7_pair_2 : decode cX7_pair 2 = .ok (.putfield 75, 3) := by decide +kernel
theorem dX7_pair_5 : decode cX7_pair 5 = .ok (.aload_n 0, 1) := by decide +kernel
theorem dX7_pair_6 : decode cX7_pair 6 = .ok (.invokevirtual 203, 3) := by decide +kernel
theorem dX7_pair_9 : decode cX7_pair 9 = .ok (.ifCond .ge 8, 3) := by decide +kernel
theorem dX7_pair_12 : decode cX7_pair 12 = .ok (.aload_n 0, 1) := by decide +kernel
theorem dX7_pair_13 : decode cX7_pair 13 = .ok (.invokevirtual 203, 3) := by decide +kernel
theorem dX7_pair_16 : decode cX7_pair 16 = .ok (.ireturn, 1) := by decide +kernel
theorem dX7_pair_17 : decode cX7_pair 17 = .ok (.aload_n 0, 1) := by decide +kernel
theorem dX7_pair_18 : decode cX7_pair 18 = .ok (.getfield 89, 3) := by decide +kernel
theorem dX7_pair_21 : decode cX7_pair 21 = .ok (.bipush 20, 2) := by decide +kernel
theorem dX7_pair_23 : decode cX7_pair 23 = .ok (.if_icmp .ne 6, 3) := by decide +kernel
theorem dX7_pair_26 : decode cX7_pair 26 = .ok (.bipush (-4), 2) := by decide +kernel
theorem dX7_pair_28 : decode cX7_pair 28 = .ok (.ireturn, 1) := by decide +kernel
theorem dX7_pair_29 : decode cX7_pair 29 = .ok (.aload_n 0, 1) := by decide +kernel
theorem dX7_pair_30 : decode cX7_pair 30 = .ok (.invokevirtual 206, 3) := by decide +kernel
theorem dX7_pair_33 : decode cX7_pair 33 = .ok (.iconst 1, 1) := by decide +kernel
theorem dX7_pair_34 : decode cX7_pair 34 = .ok (.aload_n 0, 1) := by decide +kernel
theorem dX7_pair_35 : decode cX7_pair 35 = .ok (.getfield 184, 3) := by decide +kernel
theorem dX7_pair_38 : decode cX7_pair 38 = .ok (.ishl, 1) := by decide +kernel
theorem dX7_pair_39 : decode cX7_pair 39 = .ok (.iconst 1, 1) := by decide +kernel
theorem dX7_pair_40 : decode cX7_pair 40 = .ok (.isub, 1) := by decide +kernel
theorem dX7_pair_41 : decode cX7_pair 41 = .ok (.istore_n 1, 1) := by decide +kernel
theorem dX7_pair_42 : decode cX7_pair 42 = .ok (.aload_n 0, 1) := by decide +kernel
theorem dX7_pair_43 : decode cX7_pair 43 = .ok (.getfield 50, 3) := by decide +kernel
theorem dX7_pair_46 : decode cX7_pair 46 = .ok (.iload_n 1, 1) := by decide +kernel
theorem dX7_pair_47 : decode cX7_pair 47 = .ok (.iaload, 1) := by decide +kernel
theorem dX7_pair_48 : decode cX7_pair 48 = .ok (.ldc 127, 2) := by decide +kernel
theorem dX7_pair_50 : decode cX7_pair 50 = .ok (.if_icmp .lt 6, 3) := by decide +kernel
theorem dX7_pair_53 : decode cX7_pair 53 = .ok (.bipush (-9), 2) := by decide +kernel
theorem dX7_pair_55 : decode cX7_pair 55 = .ok (.ireturn, 1) := by decide +kernel
theorem dX7_pair_56 : decode cX7_pair 56 = .ok (.aload_n 0, 1) := by decide +kernel
theorem dX7_pair_57 : decode cX7_pair 57 = .ok (.getfield 89, 3) := by decide +kernel
theorem dX7_pair_60 : decode cX7_pair 60 = .ok (.istore_n 2, 1) := by decide +kernel
theorem dX7_pair_61 : decode cX7_pair 61 = .ok (.aload_n 0, 1) := by decide +kernel
theorem dX7_pair_62 : decode cX7_pair 62 = .ok (.getfield 16, 3) := by decide +kernel
theorem dX7_pair_65 : decode cX7_pair 65 = .ok (.iload_n 2, 1) := by decide +kernel
theorem dX7_pair_66 : decode cX7_pair 66 = .ok (.iconst 0, 1) := by decide +kernel
theorem dX7_pair_67 : decode cX7_pair 67 = .ok (.iastore, 1) := by decide +kernel
theorem dX7_pair_68 : decode cX7_pair 68 = .ok (.aload_n 0, 1) := by decide +kernel
theorem dX7_pair_69 : decode cX7_pair 69 = .ok (.getfield 19, 3) := by decide +kernel
theorem dX7_pair_72 : decode cX7_pair 72 = .ok (.iload_n 2, 1) := by decide +kernel
theorem dX7_pair_73 : decode cX7_pair 73 = .ok (.aload_n 0, 1) := by decide +kernel
theorem dX7_pair_74 : decode cX7_pair 74 = .ok (.getfield 166, 3) := by decide +kernel
theorem dX7_pair_77 : decode cX7_pair 77 = .ok (.iastore, 1) := by decide +kernel
theorem dX7_pair_78 : decode cX7_pair 78 = .ok (.iload_n 1, 1) := by decide +kernel
theorem dX7_pair_79 : decode cX7_pair 79 = .ok (.ifCond .eq 51, 3) := by decide +kernel
theorem dX7_pair_82 : decode cX7_pair 82 = .ok (.iload_n 1, 1) := by decide +kernel
theorem dX7_pair_83 : decode cX7_pair 83 = .ok (.invokestatic 196, 3) := by decide +kernel
theorem dX7_pair_86 : decode cX7_pair 86 = .ok (.istore_n 3, 1) := by decide +kernel
theorem dX7_pair_87 : decode cX7_pair 87 = .ok (.aload_n 0, 1) := by decide +kernel
theorem dX7_pair_88 : decode cX7_pair 88 = .ok (.iload_n 1, 1) := by decide +kernel
theorem dX7_pair_89 : decode cX7_pair 89 = .ok (.invokevirtual 209, 3) := by decide +kernel
theorem dX7_pair_92 : decode cX7_pair 92 = .ok (.istore 4, 2) := by decide +kernel
theorem dX7_pair_94 : decode cX7_pair 94 = .ok (.aload_n 0, 1) := by decide +kernel
theorem dX7_pair_95 : decode cX7_pair 95 = .ok (.iload_n 2, 1) := by decide +kernel
theorem dX7_pair_96 : decode cX7_pair 96 = .ok (.aload_n 0, 1) := by decide +kernel
theorem dX7_pair_97 : decode cX7_pair 97 = .ok (.getfield 44, 3) := by decide +kernel
theorem dX7_pair_100 : decode cX7_pair 100 = .ok (.iload_n 3, 1) := by decide +kernel
theorem dX7_pair_101 : decode cX7_pair 101 = .ok (.iaload, 1) := by decide +kernel
theorem dX7_pair_102 : decode cX7_pair 102 = .ok (.aload_n 0, 1) := by decide +kernel
theorem dX7_pair_103 : decode cX7_pair 103 = .ok (.getfield 44, 3) := by decide +kernel
theorem dX7_pair_106 : decode cX7_pair 106 = .ok (.iload 4, 2) := by decide +kernel
theorem dX7_pair_108 : decode cX7_pair 108 = .ok (.iaload, 1) := by decide +kernel
theorem dX7_pair_109 : decode cX7_pair 109 = .ok (.invokevirtual 212, 3) := by decide +kernel
theorem dX7_pair_112 : decode cX7_pair 112 = .ok (.iload_n 1, 1) := by decide +kernel
theorem dX7_pair_113 : decode cX7_pair 113 = .ok (.iconst 1, 1) := by decide +kernel
theorem dX7_pair_114 : decode cX7_pair 114 = .ok (.iload_n 3, 1) := by decide +kernel
theorem dX7_pair_115 : decode cX7_pair 115 = .ok (.ishl, 1) := by decide +kernel
theorem dX7_pair_116 : decode cX7_pair 116 = .ok (.iconst (-1), 1) := by decide +kernel
theorem dX7_pair_117 : decode cX7_pair 117 = .ok (.ixor, 1) := by decide +kernel
theorem dX7_pair_118 : decode cX7_pair 118 = .ok (.iconst 1, 1) := by decide +kernel
theorem dX7_pair_119 : decode cX7_pair 119 = .ok (.iload 4, 2) := by decide +kernel
theorem dX7_pair_121 : decode cX7_pair 121 = .ok (.ishl, 1) := by decide +kernel
theorem dX7_pair_122 : decode cX7_pair 122 = .ok (.iconst (-1), 1) := by decide +kernel
theorem dX7_pair_123 : decode cX7_pair 123 = .ok (.ixor, 1) := by decide +kernel
theorem dX7_pair_124 : decode cX7_pair 124 = .ok (.iand, 1) := by decide +kernel
theorem dX7_pair_125 : decode cX7_pair 125 = .ok (.iand, 1) := by decide +kernel
theorem dX7_pair_126 : decode cX7_pair 126 = .ok (.istore_n 1, 1) := by decide +kernel
theorem dX7_pair_127 : decode cX7_pair 127 = .ok (.goto (-49), 3) := by decide +kernel
theorem dX7_pair_130 : decode cX7_pair 130 = .ok (.aload_n 0, 1) := by decide +kernel
theorem dX7_pair_131 : decode cX7_pair 131 = .ok (.dup, 1) := by decide +kernel
theorem dX7_pair_132 : decode cX7_pair 132 = .ok (.getfield 89, 3) := by decide +kernel
theorem dX7_pair_135 : decode cX7_pair 135 = .ok (.iconst 1, 1) := by decide +kernel
theorem dX7_pair_136 : decode cX7_pair 136 = .ok (.iadd, 1) := by decide +kernel
theorem dX7_pair_137 : decode cX7_pair 137 = .ok (.putfield 89, 3) := by decide +kernel
theorem dX7_pair_140 : decode cX7_pair 140 = .ok (.aload_n 0, 1) := by decide +kernel
theorem dX7_pair_141 : decode cX7_pair 141 = .ok (.iconst 1, 1) := by decide +kernel
theorem dX7_pair_142 : decode cX7_pair 142 = .ok (.putfield 92, 3) := by decide +kernel
theorem dX7_pair_145 : decode cX7_pair 145 = .ok (.aload_n 0, 1) := by decide +kernel
theorem dX7_pair_146 : decode cX7_pair 146 = .ok (.getfield 16, 3) := by decide +kernel
theorem dX7_pair_149 : decode cX7_pair 149 = .ok (.iload_n 2, 1) := by decide +kernel
theorem dX7_pair_150 : decode cX7_pair 150 = .ok (.iaload, 1) := by decide +kernel
theorem dX7_pair_151 : decode cX7_pair 151 = .ok (.ireturn, 1) := by decide +kernel
theorem dX7_least_0 : decode cX7_least 0 = .ok (.aload_n 0, 1) := by decide +kernel
theorem dX7_least_1 : decode cX7_least 1 = .ok (.iconst 0, 1) := by decide +kernel
theorem dX7_least_2 : decode cX7_least 2 = .ok (.putfield 75, 3) := by decide +kernel
theorem dX7_least_5 : decode cX7_least 5 = .ok (.aload_n 0, 1) := by decide +kernel
theorem dX7_least_6 : decode cX7_least 6 = .ok (.invokevirtual 203, 3) := by decide +kernel
theorem dX7_least_9 : decode cX7_least 9 = .ok (.ifCond .ge 8, 3) := by decide +kernel
theorem dX7_least_12 : decode cX7_least 12 = .ok (.aload_n 0, 1) := by decide +kernel
theorem dX7_least_13 : decode cX7_least 13 = .ok (.invokevirtual 203, 3) := by decide +kernel
theorem dX7_least_16 : decode cX7_least 16 = .ok (.ireturn, 1) := by decide +kernel
theorem dX7_least_17 : decode cX7_least 17 = .ok (.aload_n 0, 1) := by decide +kernel
theorem dX7_least_18 : decode cX7_least 18 = .ok (.invokevirtual 206, 3) := by decide +kernel
theorem dX7_least_21 : decode cX7_least 21 = .ok (.aload_n 0, 1) := by decide +kernel
theorem dX7_least_22 : decode cX7_least 22 = .ok (.getfield 50, 3) := by decide +kernel
theorem dX7_least_25 : decode cX7_least 25 = .ok (.iconst 1, 1) := by decide +kernel
theorem dX7_least_26 : decode cX7_least 26 = .ok (.aload_n 0, 1) := by decide +kernel
theorem dX7_least_27 : decode cX7_least 27 = .ok (.getfield 184, 3) := by decide +kernel
theorem dX7_least_30 : decode cX7_least 30 = .ok (.ishl, 1) := by decide +kernel
theorem dX7_least_31 : decode cX7_least 31 = .ok (.iconst 1, 1) := by decide +kernel
theorem dX7_least_32 : decode cX7_least 32 = .ok (.isub, 1) := by decide +kernel
theorem dX7_least_33 : decode cX7_least 33 = .ok (.iaload, 1) := by decide +kernel
theorem dX7_least_34 : decode cX7_least 34 = .ok (.istore_n 1, 1) := by decide +kernel
theorem dX7_least_35 : decode cX7_least 35 = .ok (.iload_n 1, 1) := by decide +kernel
theorem dX7_least_36 : decode cX7_least 36 = .ok (.ldc 127, 2) := by decide +kernel
theorem dX7_least_38 : decode cX7_least 38 = .ok (.if_icmp .lt 8, 3) := by decide +kernel
theorem dX7_least_41 : decode cX7_least 41 = .ok (.bipush (-9), 2) := by decide +kernel
theorem dX7_least_43 : decode cX7_least 43 = .ok (.goto 4, 3) := by decide +kernel
theorem dX7_least_46 : decode cX7_least 46 = .ok (.iload_n 1, 1) := by decide +kernel
theorem dX7_least_47 : decode cX7_least 47 = .ok (.ireturn, 1) := by decide +kernel
theorem dX7_ways_0 : decode cX7_ways 0 = .ok (.aload_n 0, 1) := by decide +kernel
theorem dX7_ways_1 : decode cX7_ways 1 = .ok (.iconst 0, 1) := by decide +kernel
theorem dX7_ways_2 : decode cX7_ways 2 = .ok (.putfield 75, 3) := by decide +kernel
theorem dX7_ways_5 : decode cX7_ways 5 = .ok (.aload_n 0, 1) := by decide +kernel
theorem dX7_ways_6 : decode cX7_ways 6 = .ok (.invokevirtual 203, 3) := by decide +kernel
theorem dX7_ways_9 : decode cX7_ways 9 = .ok (.ifCond .ge 8, 3) := by decide +kernel
theorem dX7_ways_12 : decode cX7_ways 12 = .ok (.aload_n 0, 1) := by decide +kernel
theorem dX7_ways_13 : decode cX7_ways 13 = .ok (.invokevirtual 203, 3) := by decide +kernel
theorem dX7_ways_16 : decode cX7_ways 16 = .ok (.ireturn, 1) := by decide +kernel
theorem dX7_ways_17 : decode cX7_ways 17 = .ok (.aload_n 0, 1) := by decide +kernel
theorem dX7_ways_18 : decode cX7_ways 18 = .ok (.invokevirtual 206, 3) := by decide +kernel
theorem dX7_ways_21 : decode cX7_ways 21 = .ok (.aload_n 0, 1) := by decide +kernel
theorem dX7_ways_22 : decode cX7_ways 22 = .ok (.getfield 53, 3) := by decide +kernel
theorem dX7_ways_25 : decode cX7_ways 25 = .ok (.iconst 1, 1) := by decide +kernel
theorem dX7_ways_26 : decode cX7_ways 26 = .ok (.aload_n 0, 1) := by decide +kernel
theorem dX7_ways_27 : decode cX7_ways 27 = .ok (.getfield 184, 3) := by decide +kernel
theorem dX7_ways_30 : decode cX7_ways 30 = .ok (.ishl, 1) := by decide +kernel
theorem dX7_ways_31 : decode cX7_ways 31 = .ok (.iconst 1, 1) := by decide +kernel
theorem dX7_ways_32 : decode cX7_ways 32 = .ok (.isub, 1) := by decide +kernel
theorem dX7_ways_33 : decode cX7_ways 33 = .ok (.iaload, 1) := by decide +kernel
theorem dX7_ways_34 : decode cX7_ways 34 = .ok (.ireturn, 1) := by decide +kernel
theorem dX7_join_0 : decode cX7_join 0 = .ok (.aload_n 0, 1) := by decide +kernel
theorem dX7_join_1 : decode cX7_join 1 = .ok (.iconst 0, 1) := by decide +kernel
theorem dX7_join_2 : decode cX7_join 2 = .ok (.putfield 75, 3) := by decide +kernel
theorem dX7_join_5 : decode cX7_join 5 = .ok (.iload_n 1, 1) := by decide +kernel
theorem dX7_join_6 : decode cX7_join 6 = .ok (.i2l, 1) := by decide +kernel
theorem dX7_join_7 : decode cX7_join 7 = .ok (.lconst 0, 1) := by decide +kernel
theorem dX7_join_8 : decode cX7_join 8 = .ok (.ldc2_w 216, 3) := by decide +kernel
theorem dX7_join_11 : decode cX7_join 11 = .ok (.invokestatic 81, 3) := by decide +kernel
theorem dX7_join_14 : decode cX7_join 14 = .ok (.ifCond .ne 6, 3) := by decide +kernel
theorem dX7_join_17 : decode cX7_join 17 = .ok (.bipush (-2), 2) := by decide +kernel
theorem dX7_join_19 : decode cX7_join 19 = .ok (.ireturn, 1) := by decide +kernel
theorem dX7_join_20 : decode cX7_join 20 = .ok (.aload_n 0, 1) := by decide +kernel
theorem dX7_join_21 : decode cX7_join 21 = .ok (.getfield 92, 3) := by decide +kernel
theorem dX7_join_24 : decode cX7_join 24 = .ok (.iconst 1, 1) := by decide +kernel
theorem dX7_join_25 : decode cX7_join 25 = .ok (.if_icmp .eq 12, 3) := by decide +kernel
theorem dX7_join_28 : decode cX7_join 28 = .ok (.aload_n 0, 1) := by decide +kernel
theorem dX7_join_29 : decode cX7_join 29 = .ok (.getfield 78, 3) := by decide +kernel
theorem dX7_join_32 : decode cX7_join 32 = .ok (.bipush 12, 2) := by decide +kernel
theorem dX7_join_34 : decode cX7_join 34 = .ok (.if_icmp .ne 19, 3) := by decide +kernel
theorem dX7_join_37 : decode cX7_join 37 = .ok (.aload_n 0, 1) := by decide +kernel
theorem dX7_join_38 : decode cX7_join 38 = .ok (.getfield 92, 3) := by decide +kernel
theorem dX7_join_41 : decode cX7_join 41 = .ok (.iconst 1, 1) := by decide +kernel
theorem dX7_join_42 : decode cX7_join 42 = .ok (.if_icmp .ne 8, 3) := by decide +kernel
theorem dX7_join_45 : decode cX7_join 45 = .ok (.bipush (-3), 2) := by decide +kernel
theorem dX7_join_47 : decode cX7_join 47 = .ok (.goto 5, 3) := by decide +kernel
theorem dX7_join_50 : decode cX7_join 50 = .ok (.bipush (-4), 2) := by decide +kernel
theorem dX7_join_52 : decode cX7_join 52 = .ok (.ireturn, 1) := by decide +kernel
theorem dX7_join_53 : decode cX7_join 53 = .ok (.aload_n 0, 1) := by decide +kernel
theorem dX7_join_54 : decode cX7_join 54 = .ok (.getfield 7, 3) := by decide +kernel
theorem dX7_join_57 : decode cX7_join 57 = .ok (.aload_n 0, 1) := by decide +kernel
theorem dX7_join_58 : decode cX7_join 58 = .ok (.getfield 78, 3) := by decide +kernel
theorem dX7_join_61 : decode cX7_join 61 = .ok (.iload_n 1, 1) := by decide +kernel
theorem dX7_join_62 : decode cX7_join 62 = .ok (.iastore, 1) := by decide +kernel
theorem dX7_join_63 : decode cX7_join 63 = .ok (.aload_n 0, 1) := by decide +kernel
theorem dX7_join_64 : decode cX7_join 64 = .ok (.getfield 13, 3) := by decide +kernel
theorem dX7_join_67 : decode cX7_join 67 = .ok (.aload_n 0, 1) := by decide +kernel
theorem dX7_join_68 : decode cX7_join 68 = .ok (.getfield 78, 3) := by decide +kernel
theorem dX7_join_71 : decode cX7_join 71 = .ok (.iconst 1, 1) := by decide +kernel
theorem dX7_join_72 : decode cX7_join 72 = .ok (.iastore, 1) := by decide +kernel
theorem dX7_join_73 : decode cX7_join 73 = .ok (.aload_n 0, 1) := by decide +kernel
theorem dX7_join_74 : decode cX7_join 74 = .ok (.dup, 1) := by decide +kernel
theorem dX7_join_75 : decode cX7_join 75 = .ok (.getfield 78, 3) := by decide +kernel
theorem dX7_join_78 : decode cX7_join 78 = .ok (.iconst 1, 1) := by decide +kernel
theorem dX7_join_79 : decode cX7_join 79 = .ok (.iadd, 1) := by decide +kernel
theorem dX7_join_80 : decode cX7_join 80 = .ok (.putfield 78, 3) := by decide +kernel
theorem dX7_join_83 : decode cX7_join 83 = .ok (.aload_n 0, 1) := by decide +kernel
theorem dX7_join_84 : decode cX7_join 84 = .ok (.getfield 78, 3) := by decide +kernel
theorem dX7_join_87 : decode cX7_join 87 = .ok (.iconst 1, 1) := by decide +kernel
theorem dX7_join_88 : decode cX7_join 88 = .ok (.isub, 1) := by decide +kernel
theorem dX7_join_89 : decode cX7_join 89 = .ok (.ireturn, 1) := by decide +kernel
theorem dX7_leave_0 : decode cX7_leave 0 = .ok (.aload_n 0, 1) := by decide +kernel
theorem dX7_leave_1 : decode cX7_leave 1 = .ok (.iconst 0, 1) := by decide +kernel
theorem dX7_leave_2 : decode cX7_leave 2 = .ok (.putfield 75, 3) := by decide +kernel
theorem dX7_leave_5 : decode cX7_leave 5 = .ok (.aload_n 0, 1) := by decide +kernel
theorem dX7_leave_6 : decode cX7_leave 6 = .ok (.iload_n 1, 1) := by decide +kernel
theorem dX7_leave_7 : decode cX7_leave 7 = .ok (.invokevirtual 85, 3) := by decide +kernel
theorem dX7_leave_10 : decode cX7_leave 10 = .ok (.ifCond .ne 5, 3) := by decide +kernel
theorem dX7_leave_13 : decode cX7_leave 13 = .ok (.iconst (-1), 1) := by decide +kernel
theorem dX7_leave_14 : decode cX7_leave 14 = .ok (.ireturn, 1) := by decide +kernel
theorem dX7_leave_15 : decode cX7_leave 15 = .ok (.aload_n 0, 1) := by decide +kernel
theorem dX7_leave_16 : decode cX7_leave 16 = .ok (.getfield 13, 3) := by decide +kernel
theorem dX7_leave_19 : decode cX7_leave 19 = .ok (.iload_n 1, 1) := by decide +kernel
theorem dX7_leave_20 : decode cX7_leave 20 = .ok (.iaload, 1) := by decide +kernel
theorem dX7_leave_21 : decode cX7_leave 21 = .ok (.ifCond .eq 11, 3) := by decide +kernel
theorem dX7_leave_24 : decode cX7_leave 24 = .ok (.aload_n 0, 1) := by decide +kernel
theorem dX7_leave_25 : decode cX7_leave 25 = .ok (.getfield 92, 3) := by decide +kernel
theorem dX7_leave_28 : decode cX7_leave 28 = .ok (.iconst 1, 1) := by decide +kernel
theorem dX7_leave_29 : decode cX7_leave 29 = .ok (.if_icmp .ne 6, 3) := by decide +kernel
theorem dX7_leave_32 : decode cX7_leave 32 = .ok (.bipush (-3), 2) := by decide +kernel
theorem dX7_leave_34 : decode cX7_leave 34 = .ok (.ireturn, 1) := by decide +kernel
theorem dX7_leave_35 : decode cX7_leave 35 = .ok (.aload_n 0, 1) := by decide +kernel
theorem dX7_leave_36 : decode cX7_leave 36 = .ok (.getfield 13, 3) := by decide +kernel
theorem dX7_leave_39 : decode cX7_leave 39 = .ok (.iload_n 1, 1) := by decide +kernel
theorem dX7_leave_40 : decode cX7_leave 40 = .ok (.iconst 0, 1) := by decide +kernel
theorem dX7_leave_41 : decode cX7_leave 41 = .ok (.iastore, 1) := by decide +kernel
theorem dX7_leave_42 : decode cX7_leave 42 = .ok (.aload_n 0, 1) := by decide +kernel
theorem dX7_leave_43 : decode cX7_leave 43 = .ok (.invokevirtual 175, 3) := by decide +kernel
theorem dX7_leave_46 : decode cX7_leave 46 = .ok (.ireturn, 1) := by decide +kernel
theorem dX7_back_0 : decode cX7_back 0 = .ok (.aload_n 0, 1) := by decide +kernel
theorem dX7_back_1 : decode cX7_back 1 = .ok (.iconst 0, 1) := by decide +kernel
theorem dX7_back_2 : decode cX7_back 2 = .ok (.putfield 75, 3) := by decide +kernel
theorem dX7_back_5 : decode cX7_back 5 = .ok (.aload_n 0, 1) := by decide +kernel
theorem dX7_back_6 : decode cX7_back 6 = .ok (.iload_n 1, 1) := by decide +kernel
theorem dX7_back_7 : decode cX7_back 7 = .ok (.invokevirtual 85, 3) := by decide +kernel
theorem dX7_back_10 : decode cX7_back 10 = .ok (.ifCond .ne 5, 3) := by decide +kernel
theorem dX7_back_13 : decode cX7_back 13 = .ok (.iconst (-1), 1) := by decide +kernel
theorem dX7_back_14 : decode cX7_back 14 = .ok (.ireturn, 1) := by decide +kernel
theorem dX7_back_15 : decode cX7_back 15 = .ok (.aload_n 0, 1) := by decide +kernel
theorem dX7_back_16 : decode cX7_back 16 = .ok (.getfield 13, 3) := by decide +kernel
theorem dX7_back_19 : decode cX7_back 19 = .ok (.iload_n 1, 1) := by decide +kernel
theorem dX7_back_20 : decode cX7_back 20 = .ok (.iaload, 1) := by decide +kernel
theorem dX7_back_21 : decode cX7_back 21 = .ok (.iconst 1, 1) := by decide +kernel
theorem dX7_back_22 : decode cX7_back 22 = .ok (.if_icmp .eq 11, 3) := by decide +kernel
theorem dX7_back_25 : decode cX7_back 25 = .ok (.aload_n 0, 1) := by decide +kernel
theorem dX7_back_26 : decode cX7_back 26 = .ok (.getfield 92, 3) := by decide +kernel
theorem dX7_back_29 : decode cX7_back 29 = .ok (.iconst 1, 1) := by decide +kernel
theorem dX7_back_30 : decode cX7_back 30 = .ok (.if_icmp .ne 6, 3) := by decide +kernel
theorem dX7_back_33 : decode cX7_back 33 = .ok (.bipush (-3), 2) := by decide +kernel
theorem dX7_back_35 : decode cX7_back 35 = .ok (.ireturn, 1) := by decide +kernel
theorem dX7_back_36 : decode cX7_back 36 = .ok (.aload_n 0, 1) := by decide +kernel
theorem dX7_back_37 : decode cX7_back 37 = .ok (.getfield 13, 3) := by decide +kernel
theorem dX7_back_40 : decode cX7_back 40 = .ok (.iload_n 1, 1) := by decide +kernel
theorem dX7_back_41 : decode cX7_back 41 = .ok (.iconst 1, 1) := by decide +kernel
theorem dX7_back_42 : decode cX7_back 42 = .ok (.iastore, 1) := by decide +kernel
theorem dX7_back_43 : decode cX7_back 43 = .ok (.aload_n 0, 1) := by decide +kernel
theorem dX7_back_44 : decode cX7_back 44 = .ok (.invokevirtual 175, 3) := by decide +kernel
theorem dX7_back_47 : decode cX7_back 47 = .ok (.ireturn, 1) := by decide +kernel
theorem dX7_rate_0 : decode cX7_rate 0 = .ok (.aload_n 0, 1) := by decide +kernel
theorem dX7_rate_1 : decode cX7_rate 1 = .ok (.iconst 0, 1) := by decide +kernel
theorem dX7_rate_2 : decode cX7_rate 2 = .ok (.putfield 75, 3) := by decide +kernel
theorem dX7_rate_5 : decode cX7_rate 5 = .ok (.aload_n 0, 1) := by decide +kernel
theorem dX7_rate_6 : decode cX7_rate 6 = .ok (.iload_n 1, 1) := by decide +kernel
theorem dX7_rate_7 : decode cX7_rate 7 = .ok (.invokevirtual 85, 3) := by decide +kernel
theorem dX7_rate_10 : decode cX7_rate 10 = .ok (.ifCond .ne 5, 3) := by decide +kernel
theorem dX7_rate_13 : decode cX7_rate 13 = .ok (.iconst (-1), 1) := by decide +kernel
theorem dX7_rate_14 : decode cX7_rate 14 = .ok (.ireturn, 1) := by decide +kernel
theorem dX7_rate_15 : decode cX7_rate 15 = .ok (.iload_n 2, 1) := by decide +kernel
theorem dX7_rate_16 : decode cX7_rate 16 = .ok (.i2l, 1) := by decide +kernel
theorem dX7_rate_17 : decode cX7_rate 17 = .ok (.lconst 0, 1) := by decide +kernel
theorem dX7_rate_18 : decode cX7_rate 18 = .ok (.ldc2_w 216, 3) := by decide +kernel
theorem dX7_rate_21 : decode cX7_rate 21 = .ok (.invokestatic 81, 3) := by decide +kernel
theorem dX7_rate_24 : decode cX7_rate 24 = .ok (.ifCond .ne 6, 3) := by decide +kernel
theorem dX7_rate_27 : decode cX7_rate 27 = .ok (.bipush (-2), 2) := by decide +kernel
theorem dX7_rate_29 : decode cX7_rate 29 = .ok (.ireturn, 1) := by decide +kernel
theorem dX7_rate_30 : decode cX7_rate 30 = .ok (.aload_n 0, 1) := by decide +kernel
theorem dX7_rate_31 : decode cX7_rate 31 = .ok (.getfield 7, 3) := by decide +kernel
theorem dX7_rate_34 : decode cX7_rate 34 = .ok (.iload_n 1, 1) := by decide +kernel
theorem dX7_rate_35 : decode cX7_rate 35 = .ok (.iaload, 1) := by decide +kernel
theorem dX7_rate_36 : decode cX7_rate 36 = .ok (.istore_n 3, 1) := by decide +kernel
theorem dX7_rate_37 : decode cX7_rate 37 = .ok (.aload_n 0, 1) := by decide +kernel
theorem dX7_rate_38 : decode cX7_rate 38 = .ok (.getfield 7, 3) := by decide +kernel
theorem dX7_rate_41 : decode cX7_rate 41 = .ok (.iload_n 1, 1) := by decide +kernel
theorem dX7_rate_42 : decode cX7_rate 42 = .ok (.iload_n 2, 1) := by decide +kernel
theorem dX7_rate_43 : decode cX7_rate 43 = .ok (.iastore, 1) := by decide +kernel
theorem dX7_rate_44 : decode cX7_rate 44 = .ok (.iload_n 3, 1) := by decide +kernel
theorem dX7_rate_45 : decode cX7_rate 45 = .ok (.ireturn, 1) := by decide +kernel
theorem dX7_of_0 : decode cX7_of 0 = .ok (.aload_n 0, 1) := by decide +kernel
theorem dX7_of_1 : decode cX7_of 1 = .ok (.iconst 0, 1) := by decide +kernel
theorem dX7_of_2 : decode cX7_of 2 = .ok (.putfield 75, 3) := by decide +kernel
theorem dX7_of_5 : decode cX7_of 5 = .ok (.aload_n 0, 1) := by decide +kernel
theorem dX7_of_6 : decode cX7_of 6 = .ok (.iload_n 1, 1) := by decide +kernel
theorem dX7_of_7 : decode cX7_of 7 = .ok (.invokevirtual 85, 3) := by decide +kernel
theorem dX7_of_10 : decode cX7_of 10 = .ok (.ifCond .eq 15, 3) := by decide +kernel
theorem dX7_of_13 : decode cX7_of 13 = .ok (.iload_n 2, 1) := by decide +kernel
theorem dX7_of_14 : decode cX7_of 14 = .ok (.i2l, 1) := by decide +kernel
theorem dX7_of_15 : decode cX7_of 15 = .ok (.lconst 0, 1) := by decide +kernel
theorem dX7_of_16 : decode cX7_of 16 = .ok (.ldc2_w 218, 3) := by decide +kernel
theorem dX7_of_19 : decode cX7_of 19 = .ok (.invokestatic 81, 3) := by decide +kernel
theorem dX7_of_22 : decode cX7_of 22 = .ok (.ifCond .ne 5, 3) := by decide +kernel
theorem dX7_of_25 : decode cX7_of 25 = .ok (.iconst (-1), 1) := by decide +kernel
theorem dX7_of_26 : decode cX7_of 26 = .ok (.ireturn, 1) := by decide +kernel
theorem dX7_of_27 : decode cX7_of 27 = .ok (.iload_n 2, 1) := by decide +kernel
theorem dX7_of_28 : decode cX7_of 28 = .ok (.tableswitch 99 0 8 #[52, 59, 66, 72, 78, 87, 93, 99, 72], 52) := by decide +kernel
theorem dX7_of_80 : decode cX7_of 80 = .ok (.aload_n 0, 1) := by decide +kernel
theorem dX7_of_81 : decode cX7_of 81 = .ok (.getfield 7, 3) := by decide +kernel
theorem dX7_of_84 : decode cX7_of 84 = .ok (.iload_n 1, 1) := by decide +kernel
theorem dX7_of_85 : decode cX7_of 85 = .ok (.iaload, 1) := by decide +kernel
theorem dX7_of_86 : decode cX7_of 86 = .ok (.ireturn, 1) := by decide +kernel
theorem dX7_of_87 : decode cX7_of 87 = .ok (.aload_n 0, 1) := by decide +kernel
theorem dX7_of_88 : decode cX7_of 88 = .ok (.getfield 13, 3) := by decide +kernel
theorem dX7_of_91 : decode cX7_of 91 = .ok (.iload_n 1, 1) := by decide +kernel
theorem dX7_of_92 : decode cX7_of 92 = .ok (.iaload, 1) := by decide +kernel
theorem dX7_of_93 : decode cX7_of 93 = .ok (.ireturn, 1) := by decide +kernel
theorem dX7_of_94 : decode cX7_of 94 = .ok (.aload_n 0, 1) := by decide +kernel
theorem dX7_of_95 : decode cX7_of 95 = .ok (.iload_n 1, 1) := by decide +kernel
theorem dX7_of_96 : decode cX7_of 96 = .ok (.invokevirtual 128, 3) := by decide +kernel
theorem dX7_of_99 : decode cX7_of 99 = .ok (.ireturn, 1) := by decide +kernel
theorem dX7_of_100 : decode cX7_of 100 = .ok (.aload_n 0, 1) := by decide +kernel
theorem dX7_of_101 : decode cX7_of 101 = .ok (.iload_n 1, 1) := by decide +kernel
theorem dX7_of_102 : decode cX7_of 102 = .ok (.invokevirtual 120, 3) := by decide +kernel
theorem dX7_of_105 : decode cX7_of 105 = .ok (.ireturn, 1) := by decide +kernel
theorem dX7_of_106 : decode cX7_of 106 = .ok (.aload_n 0, 1) := by decide +kernel
theorem dX7_of_107 : decode cX7_of 107 = .ok (.iload_n 1, 1) := by decide +kernel
theorem dX7_of_108 : decode cX7_of 108 = .ok (.invokevirtual 160, 3) := by decide +kernel
theorem dX7_of_111 : decode cX7_of 111 = .ok (.bipush 100, 2) := by decide +kernel
theorem dX7_of_113 : decode cX7_of 113 = .ok (.iadd, 1) := by decide +kernel
theorem dX7_of_114 : decode cX7_of 114 = .ok (.ireturn, 1) := by decide +kernel
theorem dX7_of_115 : decode cX7_of 115 = .ok (.aload_n 0, 1) := by decide +kernel
theorem dX7_of_116 : decode cX7_of 116 = .ok (.iload_n 1, 1) := by decide +kernel
theorem dX7_of_117 : decode cX7_of 117 = .ok (.invokevirtual 163, 3) := by decide +kernel
theorem dX7_of_120 : decode cX7_of 120 = .ok (.ireturn, 1) := by decide +kernel
theorem dX7_of_121 : decode cX7_of 121 = .ok (.aload_n 0, 1) := by decide +kernel
theorem dX7_of_122 : decode cX7_of 122 = .ok (.iload_n 1, 1) := by decide +kernel
theorem dX7_of_123 : decode cX7_of 123 = .ok (.invokevirtual 169, 3) := by decide +kernel
theorem dX7_of_126 : decode cX7_of 126 = .ok (.ireturn, 1) := by decide +kernel
theorem dX7_of_127 : decode cX7_of 127 = .ok (.aload_n 0, 1) := by decide +kernel
theorem dX7_of_128 : decode cX7_of 128 = .ok (.iload_n 1, 1) := by decide +kernel
theorem dX7_of_129 : decode cX7_of 129 = .ok (.invokevirtual 172, 3) := by decide +kernel
theorem dX7_of_132 : decode cX7_of 132 = .ok (.ireturn, 1) := by decide +kernel
theorem dX7_tie_0 : decode cX7_tie 0 = .ok (.aload_n 0, 1) := by decide +kernel
theorem dX7_tie_1 : decode cX7_tie 1 = .ok (.iconst 0, 1) := by decide +kernel
theorem dX7_tie_2 : decode cX7_tie 2 = .ok (.putfield 75, 3) := by decide +kernel
theorem dX7_tie_5 : decode cX7_tie 5 = .ok (.aload_n 0, 1) := by decide +kernel
theorem dX7_tie_6 : decode cX7_tie 6 = .ok (.iload_n 1, 1) := by decide +kernel
theorem dX7_tie_7 : decode cX7_tie 7 = .ok (.invokevirtual 85, 3) := by decide +kernel
theorem dX7_tie_10 : decode cX7_tie 10 = .ok (.ifCond .eq 24, 3) := by decide +kernel
theorem dX7_tie_13 : decode cX7_tie 13 = .ok (.iload_n 2, 1) := by decide +kernel
theorem dX7_tie_14 : decode cX7_tie 14 = .ok (.i2l, 1) := by decide +kernel
theorem dX7_tie_15 : decode cX7_tie 15 = .ok (.lconst 0, 1) := by decide +kernel
theorem dX7_tie_16 : decode cX7_tie 16 = .ok (.ldc2_w 218, 3) := by decide +kernel
theorem dX7_tie_19 : decode cX7_tie 19 = .ok (.invokestatic 81, 3) := by decide +kernel
theorem dX7_tie_22 : decode cX7_tie 22 = .ok (.ifCond .eq 12, 3) := by decide +kernel
theorem dX7_tie_25 : decode cX7_tie 25 = .ok (.aload_n 0, 1) := by decide +kernel
theorem dX7_tie_26 : decode cX7_tie 26 = .ok (.iload_n 1, 1) := by decide +kernel
theorem dX7_tie_27 : decode cX7_tie 27 = .ok (.iload_n 2, 1) := by decide +kernel
theorem dX7_tie_28 : decode cX7_tie 28 = .ok (.invokevirtual 154, 3) := by decide +kernel
theorem dX7_tie_31 : decode cX7_tie 31 = .ok (.goto 4, 3) := by decide +kernel
theorem dX7_tie_34 : decode cX7_tie 34 = .ok (.iconst (-1), 1) := by decide +kernel
theorem dX7_tie_35 : decode cX7_tie 35 = .ok (.ireturn, 1) := by decide +kernel
theorem dX7_rank_0 : decode cX7_rank 0 = .ok (.aload_n 0, 1) := by decide +kernel
theorem dX7_rank_1 : decode cX7_rank 1 = .ok (.iconst 0, 1) := by decide +kernel
theorem dX7_rank_2 : decode cX7_rank 2 = .ok (.putfield 75, 3) := by decide +kernel
theorem dX7_rank_5 : decode cX7_rank 5 = .ok (.aload_n 0, 1) := by decide +kernel
theorem dX7_rank_6 : decode cX7_rank 6 = .ok (.iload_n 1, 1) := by decide +kernel
theorem dX7_rank_7 : decode cX7_rank 7 = .ok (.invokevirtual 85, 3) := by decide +kernel
theorem dX7_rank_10 : decode cX7_rank 10 = .ok (.ifCond .ne 5, 3) := by decide +kernel
theorem dX7_rank_13 : decode cX7_rank 13 = .ok (.iconst (-1), 1) := by decide +kernel
theorem dX7_rank_14 : decode cX7_rank 14 = .ok (.ireturn, 1) := by decide +kernel
theorem dX7_rank_15 : decode cX7_rank 15 = .ok (.aload_n 0, 1) := by decide +kernel
theorem dX7_rank_16 : decode cX7_rank 16 = .ok (.invokevirtual 178, 3) := by decide +kernel
theorem dX7_rank_19 : decode cX7_rank 19 = .ok (.aload_n 0, 1) := by decide +kernel
theorem dX7_rank_20 : decode cX7_rank 20 = .ok (.iload_n 1, 1) := by decide +kernel
theorem dX7_rank_21 : decode cX7_rank 21 = .ok (.invokevirtual 157, 3) := by decide +kernel
theorem dX7_rank_24 : decode cX7_rank 24 = .ok (.ireturn, 1) := by decide +kernel
theorem dX7_nth_0 : decode cX7_nth 0 = .ok (.aload_n 0, 1) := by decide +kernel
theorem dX7_nth_1 : decode cX7_nth 1 = .ok (.iconst 0, 1) := by decide +kernel
theorem dX7_nth_2 : decode cX7_nth 2 = .ok (.putfield 75, 3) := by decide +kernel
theorem dX7_nth_5 : decode cX7_nth 5 = .ok (.aload_n 0, 1) := by decide +kernel
theorem dX7_nth_6 : decode cX7_nth 6 = .ok (.invokevirtual 178, 3) := by decide +kernel
theorem dX7_nth_9 : decode cX7_nth 9 = .ok (.aload_n 0, 1) := by decide +kernel
theorem dX7_nth_10 : decode cX7_nth 10 = .ok (.iload_n 1, 1) := by decide +kernel
theorem dX7_nth_11 : decode cX7_nth 11 = .ok (.invokevirtual 85, 3) := by decide +kernel
theorem dX7_nth_14 : decode cX7_nth 14 = .ok (.ifCond .eq 12, 3) := by decide +kernel
theorem dX7_nth_17 : decode cX7_nth 17 = .ok (.aload_n 0, 1) := by decide +kernel
theorem dX7_nth_18 : decode cX7_nth 18 = .ok (.getfield 41, 3) := by decide +kernel
theorem dX7_nth_21 : decode cX7_nth 21 = .ok (.iload_n 1, 1) := by decide +kernel
theorem dX7_nth_22 : decode cX7_nth 22 = .ok (.iaload, 1) := by decide +kernel
theorem dX7_nth_23 : decode cX7_nth 23 = .ok (.goto 4, 3) := by decide +kernel
theorem dX7_nth_26 : decode cX7_nth 26 = .ok (.iconst (-1), 1) := by decide +kernel
theorem dX7_nth_27 : decode cX7_nth 27 = .ok (.ireturn, 1) := by decide +kernel
theorem dX7_explain_0 : decode cX7_explain 0 = .ok (.aload_n 0, 1) := by decide +kernel
theorem dX7_explain_1 : decode cX7_explain 1 = .ok (.iconst 0, 1) := by decide +kernel
theorem dX7_explain_2 : decode cX7_explain 2 = .ok (.putfield 75, 3) := by decide +kernel
theorem dX7_explain_5 : decode cX7_explain 5 = .ok (.aload_n 0, 1) := by decide +kernel
theorem dX7_explain_6 : decode cX7_explain 6 = .ok (.iload_n 1, 1) := by decide +kernel
theorem dX7_explain_7 : decode cX7_explain 7 = .ok (.iload_n 2, 1) := by decide +kernel
theorem dX7_explain_8 : decode cX7_explain 8 = .ok (.invokevirtual 220, 3) := by decide +kernel
theorem dX7_explain_11 : decode cX7_explain 11 = .ok (.ifCond .eq 13, 3) := by decide +kernel
theorem dX7_explain_14 : decode cX7_explain 14 = .ok (.iload_n 3, 1) := by decide +kernel
theorem dX7_explain_15 : decode cX7_explain 15 = .ok (.i2l, 1) := by decide +kernel
theorem dX7_explain_16 : decode cX7_explain 16 = .ok (.lconst 0, 1) := by decide +kernel
theorem dX7_explain_17 : decode cX7_explain 17 = .ok (.lconst 1, 1) := by decide +kernel
theorem dX7_explain_18 : decode cX7_explain 18 = .ok (.invokestatic 81, 3) := by decide +kernel
theorem dX7_explain_21 : decode cX7_explain 21 = .ok (.ifCond .ne 5, 3) := by decide +kernel
theorem dX7_explain_24 : decode cX7_explain 24 = .ok (.iconst (-1), 1) := by decide +kernel
theorem dX7_explain_25 : decode cX7_explain 25 = .ok (.ireturn, 1) := by decide +kernel
theorem dX7_explain_26 : decode cX7_explain 26 = .ok (.aload_n 0, 1) := by decide +kernel
theorem dX7_explain_27 : decode cX7_explain 27 = .ok (.invokevirtual 178, 3) := by decide +kernel
theorem dX7_explain_30 : decode cX7_explain 30 = .ok (.aload_n 0, 1) := by decide +kernel
theorem dX7_explain_31 : decode cX7_explain 31 = .ok (.iload_n 1, 1) := by decide +kernel
theorem dX7_explain_32 : decode cX7_explain 32 = .ok (.iload_n 2, 1) := by decide +kernel
theorem dX7_explain_33 : decode cX7_explain 33 = .ok (.invokevirtual 147, 3) := by decide +kernel
theorem dX7_explain_36 : decode cX7_explain 36 = .ok (.istore 4, 2) := by decide +kernel
theorem dX7_explain_38 : decode cX7_explain 38 = .ok (.iload_n 3, 1) := by decide +kernel
theorem dX7_explain_39 : decode cX7_explain 39 = .ok (.ifCond .ne 16, 3) := by decide +kernel
theorem dX7_explain_42 : decode cX7_explain 42 = .ok (.iload 4, 2) := by decide +kernel
theorem dX7_explain_44 : decode cX7_explain 44 = .ok (.ifCond .ge 8, 3) := by decide +kernel
theorem dX7_explain_47 : decode cX7_explain 47 = .ok (.bipush (-5), 2) := by decide +kernel
theorem dX7_explain_49 : decode cX7_explain 49 = .ok (.goto 5, 3) := by decide +kernel
theorem dX7_explain_52 : decode cX7_explain 52 = .ok (.iload 4, 2) := by decide +kernel
theorem dX7_explain_54 : decode cX7_explain 54 = .ok (.ireturn, 1) := by decide +kernel
theorem dX7_explain_55 : decode cX7_explain 55 = .ok (.iload 4, 2) := by decide +kernel
theorem dX7_explain_57 : decode cX7_explain 57 = .ok (.ifCond .ge 9, 3) := by decide +kernel
theorem dX7_explain_60 : decode cX7_explain 60 = .ok (.iload_n 2, 1) := by decide +kernel
theorem dX7_explain_61 : decode cX7_explain 61 = .ok (.iload_n 1, 1) := by decide +kernel
theorem dX7_explain_62 : decode cX7_explain 62 = .ok (.isub, 1) := by decide +kernel
theorem dX7_explain_63 : decode cX7_explain 63 = .ok (.goto 28, 3) := by decide +kernel
theorem dX7_explain_66 : decode cX7_explain 66 = .ok (.aload_n 0, 1) := by decide +kernel
theorem dX7_explain_67 : decode cX7_explain 67 = .ok (.getfield 38, 3) := by decide +kernel
theorem dX7_explain_70 : decode cX7_explain 70 = .ok (.bipush 9, 2) := by decide +kernel
theorem dX7_explain_72 : decode cX7_explain 72 = .ok (.iload_n 1, 1) := by decide +kernel
theorem dX7_explain_73 : decode cX7_explain 73 = .ok (.imul, 1) := by decide +kernel
theorem dX7_explain_74 : decode cX7_explain 74 = .ok (.iload 4, 2) := by decide +kernel
theorem dX7_explain_76 : decode cX7_explain 76 = .ok (.iadd, 1) := by decide +kernel
theorem dX7_explain_77 : decode cX7_explain 77 = .ok (.iaload, 1) := by decide +kernel
theorem dX7_explain_78 : decode cX7_explain 78 = .ok (.aload_n 0, 1) := by decide +kernel
theorem dX7_explain_79 : decode cX7_explain 79 = .ok (.getfield 38, 3) := by decide +kernel
theorem dX7_explain_82 : decode cX7_explain 82 = .ok (.bipush 9, 2) := by decide +kernel
theorem dX7_explain_84 : decode cX7_explain 84 = .ok (.iload_n 2, 1) := by decide +kernel
theorem dX7_explain_85 : decode cX7_explain 85 = .ok (.imul, 1) := by decide +kernel
theorem dX7_explain_86 : decode cX7_explain 86 = .ok (.iload 4, 2) := by decide +kernel
theorem dX7_explain_88 : decode cX7_explain 88 = .ok (.iadd, 1) := by decide +kernel
theorem dX7_explain_89 : decode cX7_explain 89 = .ok (.iaload, 1) := by decide +kernel
theorem dX7_explain_90 : decode cX7_explain 90 = .ok (.isub, 1) := by decide +kernel
theorem dX7_explain_91 : decode cX7_explain 91 = .ok (.ireturn, 1) := by decide +kernel
theorem dX7_met_0 : decode cX7_met 0 = .ok (.aload_n 0, 1) := by decide +kernel
theorem dX7_met_1 : decode cX7_met 1 = .ok (.iconst 0, 1) := by decide +kernel
theorem dX7_met_2 : decode cX7_met 2 = .ok (.putfield 75, 3) := by decide +kernel
theorem dX7_met_5 : decode cX7_met 5 = .ok (.aload_n 0, 1) := by decide +kernel
theorem dX7_met_6 : decode cX7_met 6 = .ok (.iload_n 1, 1) := by decide +kernel
theorem dX7_met_7 : decode cX7_met 7 = .ok (.iload_n 2, 1) := by decide +kernel
theorem dX7_met_8 : decode cX7_met 8 = .ok (.invokevirtual 220, 3) := by decide +kernel
theorem dX7_met_11 : decode cX7_met 11 = .ok (.ifCond .eq 12, 3) := by decide +kernel
theorem dX7_met_14 : decode cX7_met 14 = .ok (.aload_n 0, 1) := by decide +kernel
theorem dX7_met_15 : decode cX7_met 15 = .ok (.iload_n 1, 1) := by decide +kernel
theorem dX7_met_16 : decode cX7_met 16 = .ok (.iload_n 2, 1) := by decide +kernel
theorem dX7_met_17 : decode cX7_met 17 = .ok (.invokevirtual 187, 3) := by decide +kernel
theorem dX7_met_20 : decode cX7_met 20 = .ok (.goto 4, 3) := by decide +kernel
theorem dX7_met_23 : decode cX7_met 23 = .ok (.iconst (-1), 1) := by decide +kernel
theorem dX7_met_24 : decode cX7_met 24 = .ok (.ireturn, 1) := by decide +kernel
theorem dX7_cost_0 : decode cX7_cost 0 = .ok (.aload_n 0, 1) := by decide +kernel
theorem dX7_cost_1 : decode cX7_cost 1 = .ok (.iconst 0, 1) := by decide +kernel
theorem dX7_cost_2 : decode cX7_cost 2 = .ok (.putfield 75, 3) := by decide +kernel
theorem dX7_cost_5 : decode cX7_cost 5 = .ok (.aload_n 0, 1) := by decide +kernel
theorem dX7_cost_6 : decode cX7_cost 6 = .ok (.iload_n 1, 1) := by decide +kernel
theorem dX7_cost_7 : decode cX7_cost 7 = .ok (.iload_n 2, 1) := by decide +kernel
theorem dX7_cost_8 : decode cX7_cost 8 = .ok (.invokevirtual 220, 3) := by decide +kernel
theorem dX7_cost_11 : decode cX7_cost 11 = .ok (.ifCond .ne 7, 3) := by decide +kernel
theorem dX7_cost_14 : decode cX7_cost 14 = .ok (.iconst (-1), 1) := by decide +kernel
theorem dX7_cost_15 : decode cX7_cost 15 = .ok (.goto 23, 3) := by decide +kernel
theorem dX7_cost_18 : decode cX7_cost 18 = .ok (.aload_n 0, 1) := by decide +kernel
theorem dX7_cost_19 : decode cX7_cost 19 = .ok (.iload_n 1, 1) := by decide +kernel
theorem dX7_cost_20 : decode cX7_cost 20 = .ok (.iload_n 2, 1) := by decide +kernel
theorem dX7_cost_21 : decode cX7_cost 21 = .ok (.invokevirtual 187, 3) := by decide +kernel
theorem dX7_cost_24 : decode cX7_cost 24 = .ok (.ifCond .lt 8, 3) := by decide +kernel
theorem dX7_cost_27 : decode cX7_cost 27 = .ok (.bipush (-5), 2) := by decide +kernel
theorem dX7_cost_29 : decode cX7_cost 29 = .ok (.goto 9, 3) := by decide +kernel
theorem dX7_cost_32 : decode cX7_cost 32 = .ok (.aload_n 0, 1) := by decide +kernel
theorem dX7_cost_33 : decode cX7_cost 33 = .ok (.iload_n 1, 1) := by decide +kernel
theorem dX7_cost_34 : decode cX7_cost 34 = .ok (.iload_n 2, 1) := by decide +kernel
theorem dX7_cost_35 : decode cX7_cost 35 = .ok (.invokevirtual 190, 3) := by decide +kernel
theorem dX7_cost_38 : decode cX7_cost 38 = .ok (.ireturn, 1) := by decide +kernel
theorem dX7_direct_0 : decode cX7_direct 0 = .ok (.aload_n 0, 1) := by decide +kernel
theorem dX7_direct_1 : decode cX7_direct 1 = .ok (.iconst 0, 1) := by decide +kernel
theorem dX7_direct_2 : decode cX7_direct 2 = .ok (.putfield 75, 3) := by decide +kernel
theorem dX7_direct_5 : decode cX7_direct 5 = .ok (.aload_n 0, 1) := by decide +kernel
theorem dX7_direct_6 : decode cX7_direct 6 = .ok (.iload_n 1, 1) := by decide +kernel
theorem dX7_direct_7 : decode cX7_direct 7 = .ok (.iload_n 2, 1) := by decide +kernel
theorem dX7_direct_8 : decode cX7_direct 8 = .ok (.invokevirtual 220, 3) := by decide +kernel
theorem dX7_direct_11 : decode cX7_direct 11 = .ok (.ifCond .ne 5, 3) := by decide +kernel
theorem dX7_direct_14 : decode cX7_direct 14 = .ok (.iconst (-1), 1) := by decide +kernel
theorem dX7_direct_15 : decode cX7_direct 15 = .ok (.ireturn, 1) := by decide +kernel
theorem dX7_direct_16 : decode cX7_direct 16 = .ok (.aload_n 0, 1) := by decide +kernel
theorem dX7_direct_17 : decode cX7_direct 17 = .ok (.iload_n 1, 1) := by decide +kernel
theorem dX7_direct_18 : decode cX7_direct 18 = .ok (.iload_n 2, 1) := by decide +kernel
theorem dX7_direct_19 : decode cX7_direct 19 = .ok (.invokevirtual 187, 3) := by decide +kernel
theorem dX7_direct_22 : decode cX7_direct 22 = .ok (.istore_n 3, 1) := by decide +kernel
theorem dX7_direct_23 : decode cX7_direct 23 = .ok (.iload_n 3, 1) := by decide +kernel
theorem dX7_direct_24 : decode cX7_direct 24 = .ok (.ifCond .ge 7, 3) := by decide +kernel
theorem dX7_direct_27 : decode cX7_direct 27 = .ok (.iconst 0, 1) := by decide +kernel
theorem dX7_direct_28 : decode cX7_direct 28 = .ok (.goto 14, 3) := by decide +kernel
theorem dX7_direct_31 : decode cX7_direct 31 = .ok (.aload_n 0, 1) := by decide +kernel
theorem dX7_direct_32 : decode cX7_direct 32 = .ok (.aload_n 0, 1) := by decide +kernel
theorem dX7_direct_33 : decode cX7_direct 33 = .ok (.iload_n 1, 1) := by decide +kernel
theorem dX7_direct_34 : decode cX7_direct 34 = .ok (.iload_n 3, 1) := by decide +kernel
theorem dX7_direct_35 : decode cX7_direct 35 = .ok (.invokevirtual 114, 3) := by decide +kernel
theorem dX7_direct_38 : decode cX7_direct 38 = .ok (.iload_n 1, 1) := by decide +kernel
theorem dX7_direct_39 : decode cX7_direct 39 = .ok (.invokevirtual 105, 3) := by decide +kernel
theorem dX7_direct_42 : decode cX7_direct 42 = .ok (.ireturn, 1) := by decide +kernel
theorem dX7_divisor_0 : decode cX7_divisor 0 = .ok (.iload_n 0, 1) := by decide +kernel
theorem dX7_divisor_1 : decode cX7_divisor 1 = .ok (.istore_n 2, 1) := by decide +kernel
theorem dX7_divisor_2 : decode cX7_divisor 2 = .ok (.iload_n 1, 1) := by decide +kernel
theorem dX7_divisor_3 : decode cX7_divisor 3 = .ok (.istore_n 3, 1) := by decide +kernel
theorem dX7_divisor_4 : decode cX7_divisor 4 = .ok (.iload_n 3, 1) := by decide +kernel
theorem dX7_divisor_5 : decode cX7_divisor 5 = .ok (.ifCond .eq 16, 3) := by decide +kernel
theorem dX7_divisor_8 : decode cX7_divisor 8 = .ok (.iload_n 2, 1) := by decide +kernel
theorem dX7_divisor_9 : decode cX7_divisor 9 = .ok (.iload_n 3, 1) := by decide +kernel
theorem dX7_divisor_10 : decode cX7_divisor 10 = .ok (.irem, 1) := by decide +kernel
theorem dX7_divisor_11 : decode cX7_divisor 11 = .ok (.istore 4, 2) := by decide +kernel
theorem dX7_divisor_13 : decode cX7_divisor 13 = .ok (.iload_n 3, 1) := by decide +kernel
theorem dX7_divisor_14 : decode cX7_divisor 14 = .ok (.istore_n 2, 1) := by decide +kernel
theorem dX7_divisor_15 : decode cX7_divisor 15 = .ok (.iload 4, 2) := by decide +kernel
theorem dX7_divisor_17 : decode cX7_divisor 17 = .ok (.istore_n 3, 1) := by decide +kernel
theorem dX7_divisor_18 : decode cX7_divisor 18 = .ok (.goto (-14), 3) := by decide +kernel
theorem dX7_divisor_21 : decode cX7_divisor 21 = .ok (.iload_n 2, 1) := by decide +kernel
theorem dX7_divisor_22 : decode cX7_divisor 22 = .ok (.ireturn, 1) := by decide +kernel
theorem dX7_average_0 : decode cX7_average 0 = .ok (.aload_n 0, 1) := by decide +kernel
theorem dX7_average_1 : decode cX7_average 1 = .ok (.iconst 0, 1) := by decide +kernel
theorem dX7_average_2 : decode cX7_average 2 = .ok (.putfield 75, 3) := by decide +kernel
theorem dX7_average_5 : decode cX7_average 5 = .ok (.aload_n 0, 1) := by decide +kernel
theorem dX7_average_6 : decode cX7_average 6 = .ok (.iload_n 1, 1) := by decide +kernel
theorem dX7_average_7 : decode cX7_average 7 = .ok (.invokevirtual 85, 3) := by decide +kernel
theorem dX7_average_10 : decode cX7_average 10 = .ok (.ifCond .eq 13, 3) := by decide +kernel
theorem dX7_average_13 : decode cX7_average 13 = .ok (.iload_n 2, 1) := by decide +kernel
theorem dX7_average_14 : decode cX7_average 14 = .ok (.i2l, 1) := by decide +kernel
theorem dX7_average_15 : decode cX7_average 15 = .ok (.lconst 0, 1) := by decide +kernel
theorem dX7_average_16 : decode cX7_average 16 = .ok (.lconst 1, 1) := by decide +kernel
theorem dX7_average_17 : decode cX7_average 17 = .ok (.invokestatic 81, 3) := by decide +kernel
theorem dX7_average_20 : decode cX7_average 20 = .ok (.ifCond .ne 5, 3) := by decide +kernel
theorem dX7_average_23 : decode cX7_average 23 = .ok (.iconst (-1), 1) := by decide +kernel
theorem dX7_average_24 : decode cX7_average 24 = .ok (.ireturn, 1) := by decide +kernel
theorem dX7_average_25 : decode cX7_average 25 = .ok (.iconst 0, 1) := by decide +kernel
theorem dX7_average_26 : decode cX7_average 26 = .ok (.istore_n 3, 1) := by decide +kernel
theorem dX7_average_27 : decode cX7_average 27 = .ok (.aload_n 0, 1) := by decide +kernel
theorem dX7_average_28 : decode cX7_average 28 = .ok (.iload_n 1, 1) := by decide +kernel
theorem dX7_average_29 : decode cX7_average 29 = .ok (.invokevirtual 120, 3) := by decide +kernel
theorem dX7_average_32 : decode cX7_average 32 = .ok (.istore 4, 2) := by decide +kernel
theorem dX7_average_34 : decode cX7_average 34 = .ok (.iconst 0, 1) := by decide +kernel
theorem dX7_average_35 : decode cX7_average 35 = .ok (.istore 5, 2) := by decide +kernel
theorem dX7_average_37 : decode cX7_average 37 = .ok (.iload 5, 2) := by decide +kernel
theorem dX7_average_39 : decode cX7_average 39 = .ok (.aload_n 0, 1) := by decide +kernel
theorem dX7_average_40 : decode cX7_average 40 = .ok (.invokevirtual 99, 3) := by decide +kernel
theorem dX7_average_43 : decode cX7_average 43 = .ok (.if_icmp .ge 42, 3) := by decide +kernel
theorem dX7_average_46 : decode cX7_average 46 = .ok (.aload_n 0, 1) := by decide +kernel
theorem dX7_average_47 : decode cX7_average 47 = .ok (.iload_n 1, 1) := by decide +kernel
theorem dX7_average_48 : decode cX7_average 48 = .ok (.iload 5, 2) := by decide +kernel
theorem dX7_average_50 : decode cX7_average 50 = .ok (.invokevirtual 114, 3) := by decide +kernel
theorem dX7_average_53 : decode cX7_average 53 = .ok (.istore 6, 2) := by decide +kernel
theorem dX7_average_55 : decode cX7_average 55 = .ok (.iload_n 3, 1) := by decide +kernel
theorem dX7_average_56 : decode cX7_average 56 = .ok (.iload 6, 2) := by decide +kernel
theorem dX7_average_58 : decode cX7_average 58 = .ok (.ifCond .lt 18, 3) := by decide +kernel
theorem dX7_average_61 : decode cX7_average 61 = .ok (.aload_n 0, 1) := by decide +kernel
theorem dX7_average_62 : decode cX7_average 62 = .ok (.getfield 7, 3) := by decide +kernel
theorem dX7_average_65 : decode cX7_average 65 = .ok (.aload_n 0, 1) := by decide +kernel
theorem dX7_average_66 : decode cX7_average 66 = .ok (.iload 6, 2) := by decide +kernel
theorem dX7_average_68 : decode cX7_average 68 = .ok (.iload_n 1, 1) := by decide +kernel
theorem dX7_average_69 : decode cX7_average 69 = .ok (.invokevirtual 117, 3) := by decide +kernel
theorem dX7_average_72 : decode cX7_average 72 = .ok (.iaload, 1) := by decide +kernel
theorem dX7_average_73 : decode cX7_average 73 = .ok (.goto 4, 3) := by decide +kernel
theorem dX7_average_76 : decode cX7_average 76 = .ok (.iconst 0, 1) := by decide +kernel
theorem dX7_average_77 : decode cX7_average 77 = .ok (.iadd, 1) := by decide +kernel
theorem dX7_average_78 : decode cX7_average 78 = .ok (.istore_n 3, 1) := by decide +kernel
theorem dX7_average_79 : decode cX7_average 79 = .ok (.iinc 5 1, 3) := by decide +kernel
theorem dX7_average_82 : decode cX7_average 82 = .ok (.goto (-45), 3) := by decide +kernel
theorem dX7_average_85 : decode cX7_average 85 = .ok (.iload 4, 2) := by decide +kernel
theorem dX7_average_87 : decode cX7_average 87 = .ok (.ifCond .ne 7, 3) := by decide +kernel
theorem dX7_average_90 : decode cX7_average 90 = .ok (.iconst 1, 1) := by decide +kernel
theorem dX7_average_91 : decode cX7_average 91 = .ok (.goto 5, 3) := by decide +kernel
theorem dX7_average_94 : decode cX7_average 94 = .ok (.iload 4, 2) := by decide +kernel
theorem dX7_average_96 : decode cX7_average 96 = .ok (.istore 4, 2) := by decide +kernel
theorem dX7_average_98 : decode cX7_average 98 = .ok (.iload_n 3, 1) := by decide +kernel
theorem dX7_average_99 : decode cX7_average 99 = .ok (.iload 4, 2) := by decide +kernel
theorem dX7_average_101 : decode cX7_average 101 = .ok (.invokestatic 223, 3) := by decide +kernel
theorem dX7_average_104 : decode cX7_average 104 = .ok (.istore 5, 2) := by decide +kernel
theorem dX7_average_106 : decode cX7_average 106 = .ok (.iload_n 2, 1) := by decide +kernel
theorem dX7_average_107 : decode cX7_average 107 = .ok (.ifCond .ne 10, 3) := by decide +kernel
theorem dX7_average_110 : decode cX7_average 110 = .ok (.iload_n 3, 1) := by decide +kernel
theorem dX7_average_111 : decode cX7_average 111 = .ok (.iload 5, 2) := by decide +kernel
theorem dX7_average_113 : decode cX7_average 113 = .ok (.idiv, 1) := by decide +kernel
theorem dX7_average_114 : decode cX7_average 114 = .ok (.goto 8, 3) := by decide +kernel
theorem dX7_average_117 : decode cX7_average 117 = .ok (.iload 4, 2) := by decide +kernel
theorem dX7_average_119 : decode cX7_average 119 = .ok (.iload 5, 2) := by decide +kernel
theorem dX7_average_121 : decode cX7_average 121 = .ok (.idiv, 1) := by decide +kernel
theorem dX7_average_122 : decode cX7_average 122 = .ok (.ireturn, 1) := by decide +kernel
theorem dX7_alike_0 : decode cX7_alike 0 = .ok (.aload_n 0, 1) := by decide +kernel
theorem dX7_alike_1 : decode cX7_alike 1 = .ok (.iconst 0, 1) := by decide +kernel
theorem dX7_alike_2 : decode cX7_alike 2 = .ok (.putfield 75, 3) := by decide +kernel
theorem dX7_alike_5 : decode cX7_alike 5 = .ok (.aload_n 0, 1) := by decide +kernel
theorem dX7_alike_6 : decode cX7_alike 6 = .ok (.iload_n 1, 1) := by decide +kernel
theorem dX7_alike_7 : decode cX7_alike 7 = .ok (.invokevirtual 85, 3) := by decide +kernel
theorem dX7_alike_10 : decode cX7_alike 10 = .ok (.ifCond .ne 5, 3) := by decide +kernel
theorem dX7_alike_13 : decode cX7_alike 13 = .ok (.iconst (-1), 1) := by decide +kernel
theorem dX7_alike_14 : decode cX7_alike 14 = .ok (.ireturn, 1) := by decide +kernel
theorem dX7_alike_15 : decode cX7_alike 15 = .ok (.aload_n 0, 1) := by decide +kernel
theorem dX7_alike_16 : decode cX7_alike 16 = .ok (.invokevirtual 178, 3) := by decide +kernel
theorem dX7_alike_19 : decode cX7_alike 19 = .ok (.iconst 0, 1) := by decide +kernel
theorem dX7_alike_20 : decode cX7_alike 20 = .ok (.istore_n 2, 1) := by decide +kernel
theorem dX7_alike_21 : decode cX7_alike 21 = .ok (.iconst 0, 1) := by decide +kernel
theorem dX7_alike_22 : decode cX7_alike 22 = .ok (.istore_n 3, 1) := by decide +kernel
theorem dX7_alike_23 : decode cX7_alike 23 = .ok (.iload_n 3, 1) := by decide +kernel
theorem dX7_alike_24 : decode cX7_alike 24 = .ok (.aload_n 0, 1) := by decide +kernel
theorem dX7_alike_25 : decode cX7_alike 25 = .ok (.getfield 78, 3) := by decide +kernel
theorem dX7_alike_28 : decode cX7_alike 28 = .ok (.if_icmp .ge 35, 3) := by decide +kernel
theorem dX7_alike_31 : decode cX7_alike 31 = .ok (.iload_n 2, 1) := by decide +kernel
theorem dX7_alike_32 : decode cX7_alike 32 = .ok (.aload_n 0, 1) := by decide +kernel
theorem dX7_alike_33 : decode cX7_alike 33 = .ok (.iload_n 3, 1) := by decide +kernel
theorem dX7_alike_34 : decode cX7_alike 34 = .ok (.invokevirtual 128, 3) := by decide +kernel
theorem dX7_alike_37 : decode cX7_alike 37 = .ok (.aload_n 0, 1) := by decide +kernel
theorem dX7_alike_38 : decode cX7_alike 38 = .ok (.aload_n 0, 1) := by decide +kernel
theorem dX7_alike_39 : decode cX7_alike 39 = .ok (.getfield 41, 3) := by decide +kernel
theorem dX7_alike_42 : decode cX7_alike 42 = .ok (.iload_n 1, 1) := by decide +kernel
theorem dX7_alike_43 : decode cX7_alike 43 = .ok (.iaload, 1) := by decide +kernel
theorem dX7_alike_44 : decode cX7_alike 44 = .ok (.invokevirtual 128, 3) := by decide +kernel
theorem dX7_alike_47 : decode cX7_alike 47 = .ok (.if_icmp .ne 7, 3) := by decide +kernel
theorem dX7_alike_50 : decode cX7_alike 50 = .ok (.iconst 1, 1) := by decide +kernel
theorem dX7_alike_51 : decode cX7_alike 51 = .ok (.goto 4, 3) := by decide +kernel
theorem dX7_alike_54 : decode cX7_alike 54 = .ok (.iconst 0, 1) := by decide +kernel
theorem dX7_alike_55 : decode cX7_alike 55 = .ok (.iadd, 1) := by decide +kernel
theorem dX7_alike_56 : decode cX7_alike 56 = .ok (.istore_n 2, 1) := by decide +kernel
theorem dX7_alike_57 : decode cX7_alike 57 = .ok (.iinc 3 1, 3) := by decide +kernel
theorem dX7_alike_60 : decode cX7_alike 60 = .ok (.goto (-37), 3) := by decide +kernel
theorem dX7_alike_63 : decode cX7_alike 63 = .ok (.iload_n 2, 1) := by decide +kernel
theorem dX7_alike_64 : decode cX7_alike 64 = .ok (.ireturn, 1) := by decide +kernel
theorem dX7_colours_0 : decode cX7_colours 0 = .ok (.aload_n 0, 1) := by decide +kernel
theorem dX7_colours_1 : decode cX7_colours 1 = .ok (.iconst 0, 1) := by decide +kernel
theorem dX7_colours_2 : decode cX7_colours 2 = .ok (.putfield 75, 3) := by decide +kernel
theorem dX7_colours_5 : decode cX7_colours 5 = .ok (.iload_n 1, 1) := by decide +kernel
theorem dX7_colours_6 : decode cX7_colours 6 = .ok (.i2l, 1) := by decide +kernel
theorem dX7_colours_7 : decode cX7_colours 7 = .ok (.lconst 0, 1) := by decide +kernel
theorem dX7_colours_8 : decode cX7_colours 8 = .ok (.ldc2_w 226, 3) := by decide +kernel
theorem dX7_colours_11 : decode cX7_colours 11 = .ok (.invokestatic 81, 3) := by decide +kernel
theorem dX7_colours_14 : decode cX7_colours 14 = .ok (.ifCond .ne 5, 3) := by decide +kernel
theorem dX7_colours_17 : decode cX7_colours 17 = .ok (.iconst (-1), 1) := by decide +kernel
theorem dX7_colours_18 : decode cX7_colours 18 = .ok (.ireturn, 1) := by decide +kernel
theorem dX7_colours_19 : decode cX7_colours 19 = .ok (.iconst 0, 1) := by decide +kernel
theorem dX7_colours_20 : decode cX7_colours 20 = .ok (.istore_n 2, 1) := by decide +kernel
theorem dX7_colours_21 : decode cX7_colours 21 = .ok (.iconst 0, 1) := by decide +kernel
theorem dX7_colours_22 : decode cX7_colours 22 = .ok (.istore_n 3, 1) := by decide +kernel
theorem dX7_colours_23 : decode cX7_colours 23 = .ok (.iload_n 3, 1) := by decide +kernel
theorem dX7_colours_24 : decode cX7_colours 24 = .ok (.aload_n 0, 1) := by decide +kernel
theorem dX7_colours_25 : decode cX7_colours 25 = .ok (.getfield 78, 3) := by decide +kernel
theorem dX7_colours_28 : decode cX7_colours 28 = .ok (.if_icmp .ge 60, 3) := by decide +kernel
theorem dX7_colours_31 : decode cX7_colours 31 = .ok (.aload_n 0, 1) := by decide +kernel
theorem dX7_colours_32 : decode cX7_colours 32 = .ok (.iload_n 3, 1) := by decide +kernel
theorem dX7_colours_33 : decode cX7_colours 33 = .ok (.invokevirtual 160, 3) := by decide +kernel
theorem dX7_colours_36 : decode cX7_colours 36 = .ok (.istore 4, 2) := by decide +kernel
theorem dX7_colours_38 : decode cX7_colours 38 = .ok (.iload_n 2, 1) := by decide +kernel
theorem dX7_colours_39 : decode cX7_colours 39 = .ok (.iload_n 1, 1) := by decide +kernel
theorem dX7_colours_40 : decode cX7_colours 40 = .ok (.ifCond .ne 8, 3) := by decide +kernel
theorem dX7_colours_43 : decode cX7_colours 43 = .ok (.iload 4, 2) := by decide +kernel
theorem dX7_colours_45 : decode cX7_colours 45 = .ok (.ifCond .gt 30, 3) := by decide +kernel
theorem dX7_colours_48 : decode cX7_colours 48 = .ok (.iload_n 1, 1) := by decide +kernel
theorem dX7_colours_49 : decode cX7_colours 49 = .ok (.iconst 1, 1) := by decide +kernel
theorem dX7_colours_50 : decode cX7_colours 50 = .ok (.if_icmp .ne 8, 3) := by decide +kernel
theorem dX7_colours_53 : decode cX7_colours 53 = .ok (.iload 4, 2) := by decide +kernel
theorem dX7_colours_55 : decode cX7_colours 55 = .ok (.ifCond .lt 20, 3) := by decide +kernel
theorem dX7_colours_58 : decode cX7_colours 58 = .ok (.iload_n 1, 1) := by decide +kernel
theorem dX7_colours_59 : decode cX7_colours 59 = .ok (.iconst 2, 1) := by decide +kernel
theorem dX7_colours_60 : decode cX7_colours 60 = .ok (.if_icmp .ne 19, 3) := by decide +kernel
theorem dX7_colours_63 : decode cX7_colours 63 = .ok (.iload 4, 2) := by decide +kernel
theorem dX7_colours_65 : decode cX7_colours 65 = .ok (.iconst 1, 1) := by decide +kernel
theorem dX7_colours_66 : decode cX7_colours 66 = .ok (.if_icmp .gt 9, 3) := by decide +kernel
theorem dX7_colours_69 : decode cX7_colours 69 = .ok (.iload 4, 2) := by decide +kernel
theorem dX7_colours_71 : decode cX7_colours 71 = .ok (.iconst (-1), 1) := by decide +kernel
theorem dX7_colours_72 : decode cX7_colours 72 = .ok (.if_icmp .ge 7, 3) := by decide +kernel
theorem dX7_colours_75 : decode cX7_colours 75 = .ok (.iconst 1, 1) := by decide +kernel
theorem dX7_colours_76 : decode cX7_colours 76 = .ok (.goto 4, 3) := by decide +kernel
theorem dX7_colours_79 : decode cX7_colours 79 = .ok (.iconst 0, 1) := by decide +kernel
theorem dX7_colours_80 : decode cX7_colours 80 = .ok (.iadd, 1) := by decide +kernel
theorem dX7_colours_81 : decode cX7_colours 81 = .ok (.istore_n 2, 1) := by decide +kernel
theorem dX7_colours_82 : decode cX7_colours 82 = .ok (.iinc 3 1, 3) := by decide +kernel
theorem dX7_colours_85 : decode cX7_colours 85 = .ok (.goto (-62), 3) := by decide +kernel
theorem dX7_colours_88 : decode cX7_colours 88 = .ok (.iload_n 2, 1) := by decide +kernel
theorem dX7_colours_89 : decode cX7_colours 89 = .ok (.ireturn, 1) := by decide +kernel
theorem dX7_board_0 : decode cX7_board 0 = .ok (.aload_n 0, 1) := by decide +kernel
theorem dX7_board_1 : decode cX7_board 1 = .ok (.iconst 0, 1) := by decide +kernel
theorem dX7_board_2 : decode cX7_board 2 = .ok (.putfield 75, 3) := by decide +kernel
theorem dX7_board_5 : decode cX7_board 5 = .ok (.iload_n 1, 1) := by decide +kernel
theorem dX7_board_6 : decode cX7_board 6 = .ok (.i2l, 1) := by decide +kernel
theorem dX7_board_7 : decode cX7_board 7 = .ok (.lconst 0, 1) := by decide +kernel
theorem dX7_board_8 : decode cX7_board 8 = .ok (.aload_n 0, 1) := by decide +kernel
theorem dX7_board_9 : decode cX7_board 9 = .ok (.getfield 89, 3) := by decide +kernel
theorem dX7_board_12 : decode cX7_board 12 = .ok (.iconst 1, 1) := by decide +kernel
theorem dX7_board_13 : decode cX7_board 13 = .ok (.isub, 1) := by decide +kernel
theorem dX7_board_14 : decode cX7_board 14 = .ok (.i2l, 1) := by decide +kernel
theorem dX7_board_15 : decode cX7_board 15 = .ok (.invokestatic 81, 3) := by decide +kernel
theorem dX7_board_18 : decode cX7_board 18 = .ok (.ifCond .eq 15, 3) := by decide +kernel
theorem dX7_board_21 : decode cX7_board 21 = .ok (.iload_n 3, 1) := by decide +kernel
theorem dX7_board_22 : decode cX7_board 22 = .ok (.i2l, 1) := by decide +kernel
theorem dX7_board_23 : decode cX7_board 23 = .ok (.lconst 0, 1) := by decide +kernel
theorem dX7_board_24 : decode cX7_board 24 = .ok (.ldc2_w 226, 3) := by decide +kernel
theorem dX7_board_27 : decode cX7_board 27 = .ok (.invokestatic 81, 3) := by decide +kernel
theorem dX7_board_30 : decode cX7_board 30 = .ok (.ifCond .ne 5, 3) := by decide +kernel
theorem dX7_board_33 : decode cX7_board 33 = .ok (.iconst (-1), 1) := by decide +kernel
theorem dX7_board_34 : decode cX7_board 34 = .ok (.ireturn, 1) := by decide +kernel
theorem dX7_board_35 : decode cX7_board 35 = .ok (.iload_n 2, 1) := by decide +kernel
theorem dX7_board_36 : decode cX7_board 36 = .ok (.i2l, 1) := by decide +kernel
theorem dX7_board_37 : decode cX7_board 37 = .ok (.lconst 0, 1) := by decide +kernel
theorem dX7_board_38 : decode cX7_board 38 = .ok (.aload_n 0, 1) := by decide +kernel
theorem dX7_board_39 : decode cX7_board 39 = .ok (.getfield 16, 3) := by decide +kernel
theorem dX7_board_42 : decode cX7_board 42 = .ok (.iload_n 1, 1) := by decide +kernel
theorem dX7_board_43 : decode cX7_board 43 = .ok (.iaload, 1) := by decide +kernel
theorem dX7_board_44 : decode cX7_board 44 = .ok (.iconst 1, 1) := by decide +kernel
theorem dX7_board_45 : decode cX7_board 45 = .ok (.isub, 1) := by decide +kernel
theorem dX7_board_46 : decode cX7_board 46 = .ok (.i2l, 1) := by decide +kernel
theorem dX7_board_47 : decode cX7_board 47 = .ok (.invokestatic 81, 3) := by decide +kernel
theorem dX7_board_50 : decode cX7_board 50 = .ok (.ifCond .ne 5, 3) := by decide +kernel
theorem dX7_board_53 : decode cX7_board 53 = .ok (.iconst (-1), 1) := by decide +kernel
theorem dX7_board_54 : decode cX7_board 54 = .ok (.ireturn, 1) := by decide +kernel
theorem dX7_board_55 : decode cX7_board 55 = .ok (.iload_n 3, 1) := by decide +kernel
theorem dX7_board_56 : decode cX7_board 56 = .ok (.ifCond .ne 17, 3) := by decide +kernel
theorem dX7_board_59 : decode cX7_board 59 = .ok (.aload_n 0, 1) := by decide +kernel
theorem dX7_board_60 : decode cX7_board 60 = .ok (.getfield 22, 3) := by decide +kernel
theorem dX7_board_63 : decode cX7_board 63 = .ok (.bipush 6, 2) := by decide +kernel
theorem dX7_board_65 : decode cX7_board 65 = .ok (.iload_n 1, 1) := by decide +kernel
theorem dX7_board_66 : decode cX7_board 66 = .ok (.imul, 1) := by decide +kernel
theorem dX7_board_67 : decode cX7_board 67 = .ok (.iload_n 2, 1) := by decide +kernel
theorem dX7_board_68 : decode cX7_board 68 = .ok (.iadd, 1) := by decide +kernel
theorem dX7_board_69 : decode cX7_board 69 = .ok (.iaload, 1) := by decide +kernel
theorem dX7_board_70 : decode cX7_board 70 = .ok (.goto 33, 3) := by decide +kernel
theorem dX7_board_73 : decode cX7_board 73 = .ok (.iload_n 3, 1) := by decide +kernel
theorem dX7_board_74 : decode cX7_board 74 = .ok (.iconst 1, 1) := by decide +kernel
theorem dX7_board_75 : decode cX7_board 75 = .ok (.if_icmp .ne 17, 3) := by decide +kernel
theorem dX7_board_78 : decode cX7_board 78 = .ok (.aload_n 0, 1) := by decide +kernel
theorem dX7_board_79 : decode cX7_board 79 = .ok (.getfield 25, 3) := by decide +kernel
theorem dX7_board_82 : decode cX7_board 82 = .ok (.bipush 6, 2) := by decide +kernel
theorem dX7_board_84 : decode cX7_board 84 = .ok (.iload_n 1, 1) := by decide +kernel
theorem dX7_board_85 : decode cX7_board 85 = .ok (.imul, 1) := by decide +kernel
theorem dX7_board_86 : decode cX7_board 86 = .ok (.iload_n 2, 1) := by decide +kernel
theorem dX7_board_87 : decode cX7_board 87 = .ok (.iadd, 1) := by decide +kernel
theorem dX7_board_88 : decode cX7_board 88 = .ok (.iaload, 1) := by decide +kernel
theorem dX7_board_89 : decode cX7_board 89 = .ok (.goto 14, 3) := by decide +kernel
theorem dX7_board_92 : decode cX7_board 92 = .ok (.aload_n 0, 1) := by decide +kernel
theorem dX7_board_93 : decode cX7_board 93 = .ok (.getfield 28, 3) := by decide +kernel
theorem dX7_board_96 : decode cX7_board 96 = .ok (.bipush 6, 2) := by decide +kernel
theorem dX7_board_98 : decode cX7_board 98 = .ok (.iload_n 1, 1) := by decide +kernel
theorem dX7_board_99 : decode cX7_board 99 = .ok (.imul, 1) := by decide +kernel
theorem dX7_board_100 : decode cX7_board 100 = .ok (.iload_n 2, 1) := by decide +kernel
theorem dX7_board_101 : decode cX7_board 101 = .ok (.iadd, 1) := by decide +kernel
theorem dX7_board_102 : decode cX7_board 102 = .ok (.iaload, 1) := by decide +kernel
theorem dX7_board_103 : decode cX7_board 103 = .ok (.ireturn, 1) := by decide +kernel
theorem dX7_bye_0 : decode cX7_bye 0 = .ok (.aload_n 0, 1) := by decide +kernel
theorem dX7_bye_1 : decode cX7_bye 1 = .ok (.iconst 0, 1) := by decide +kernel
theorem dX7_bye_2 : decode cX7_bye 2 = .ok (.putfield 75, 3) := by decide +kernel
theorem dX7_bye_5 : decode cX7_bye 5 = .ok (.iload_n 1, 1) := by decide +kernel
theorem dX7_bye_6 : decode cX7_bye 6 = .ok (.i2l, 1) := by decide +kernel
theorem dX7_bye_7 : decode cX7_bye 7 = .ok (.lconst 0, 1) := by decide +kernel
theorem dX7_bye_8 : decode cX7_bye 8 = .ok (.aload_n 0, 1) := by decide +kernel
theorem dX7_bye_9 : decode cX7_bye 9 = .ok (.getfield 89, 3) := by decide +kernel
theorem dX7_bye_12 : decode cX7_bye 12 = .ok (.iconst 1, 1) := by decide +kernel
theorem dX7_bye_13 : decode cX7_bye 13 = .ok (.isub, 1) := by decide +kernel
theorem dX7_bye_14 : decode cX7_bye 14 = .ok (.i2l, 1) := by decide +kernel
theorem dX7_bye_15 : decode cX7_bye 15 = .ok (.invokestatic 81, 3) := by decide +kernel
theorem dX7_bye_18 : decode cX7_bye 18 = .ok (.ifCond .eq 12, 3) := by decide +kernel
theorem dX7_bye_21 : decode cX7_bye 21 = .ok (.aload_n 0, 1) := by decide +kernel
theorem dX7_bye_22 : decode cX7_bye 22 = .ok (.getfield 19, 3) := by decide +kernel
theorem dX7_bye_25 : decode cX7_bye 25 = .ok (.iload_n 1, 1) := by decide +kernel
theorem dX7_bye_26 : decode cX7_bye 26 = .ok (.iaload, 1) := by decide +kernel
theorem dX7_bye_27 : decode cX7_bye 27 = .ok (.goto 4, 3) := by decide +kernel
theorem dX7_bye_30 : decode cX7_bye 30 = .ok (.iconst (-1), 1) := by decide +kernel
theorem dX7_bye_31 : decode cX7_bye 31 = .ok (.ireturn, 1) := by decide +kernel
theorem dX7_result_0 : decode cX7_result 0 = .ok (.aload_n 0, 1) := by decide +kernel
theorem dX7_result_1 : decode cX7_result 1 = .ok (.iconst 0, 1) := by decide +kernel
theorem dX7_result_2 : decode cX7_result 2 = .ok (.putfield 75, 3) := by decide +kernel
theorem dX7_result_5 : decode cX7_result 5 = .ok (.aload_n 0, 1) := by decide +kernel
theorem dX7_result_6 : decode cX7_result 6 = .ok (.getfield 92, 3) := by decide +kernel
theorem dX7_result_9 : decode cX7_result 9 = .ok (.ifCond .ne 6, 3) := by decide +kernel
theorem dX7_result_12 : decode cX7_result 12 = .ok (.bipush (-3), 2) := by decide +kernel
theorem dX7_result_14 : decode cX7_result 14 = .ok (.ireturn, 1) := by decide +kernel
theorem dX7_result_15 : decode cX7_result 15 = .ok (.aload_n 0, 1) := by decide +kernel
theorem dX7_result_16 : decode cX7_result 16 = .ok (.getfield 89, 3) := by decide +kernel
theorem dX7_result_19 : decode cX7_result 19 = .ok (.iconst 1, 1) := by decide +kernel
theorem dX7_result_20 : decode cX7_result 20 = .ok (.isub, 1) := by decide +kernel
theorem dX7_result_21 : decode cX7_result 21 = .ok (.istore_n 3, 1) := by decide +kernel
theorem dX7_result_22 : decode cX7_result 22 = .ok (.iload_n 1, 1) := by decide +kernel
theorem dX7_result_23 : decode cX7_result 23 = .ok (.i2l, 1) := by decide +kernel
theorem dX7_result_24 : decode cX7_result 24 = .ok (.lconst 0, 1) := by decide +kernel
theorem dX7_result_25 : decode cX7_result 25 = .ok (.aload_n 0, 1) := by decide +kernel
theorem dX7_result_26 : decode cX7_result 26 = .ok (.getfield 16, 3) := by decide +kernel
theorem dX7_result_29 : decode cX7_result 29 = .ok (.iload_n 3, 1) := by decide +kernel
theorem dX7_result_30 : decode cX7_result 30 = .ok (.iaload, 1) := by decide +kernel
theorem dX7_result_31 : decode cX7_result 31 = .ok (.iconst 1, 1) := by decide +kernel
theorem dX7_result_32 : decode cX7_result 32 = .ok (.isub, 1) := by decide +kernel
theorem dX7_result_33 : decode cX7_result 33 = .ok (.i2l, 1) := by decide +kernel
theorem dX7_result_34 : decode cX7_result 34 = .ok (.invokestatic 81, 3) := by decide +kernel
theorem dX7_result_37 : decode cX7_result 37 = .ok (.ifCond .ne 5, 3) := by decide +kernel
theorem dX7_result_40 : decode cX7_result 40 = .ok (.iconst (-1), 1) := by decide +kernel
theorem dX7_result_41 : decode cX7_result 41 = .ok (.ireturn, 1) := by decide +kernel
theorem dX7_result_42 : decode cX7_result 42 = .ok (.iload_n 2, 1) := by decide +kernel
theorem dX7_result_43 : decode cX7_result 43 = .ok (.i2l, 1) := by decide +kernel
theorem dX7_result_44 : decode cX7_result 44 = .ok (.lconst 0, 1) := by decide +kernel
theorem dX7_result_45 : decode cX7_result 45 = .ok (.ldc2_w 228, 3) := by decide +kernel
theorem dX7_result_48 : decode cX7_result 48 = .ok (.invokestatic 81, 3) := by decide +kernel
theorem dX7_result_51 : decode cX7_result 51 = .ok (.ifCond .ne 6, 3) := by decide +kernel
theorem dX7_result_54 : decode cX7_result 54 = .ok (.bipush (-2), 2) := by decide +kernel
theorem dX7_result_56 : decode cX7_result 56 = .ok (.ireturn, 1) := by decide +kernel
theorem dX7_result_57 : decode cX7_result 57 = .ok (.aload_n 0, 1) := by decide +kernel
theorem dX7_result_58 : decode cX7_result 58 = .ok (.getfield 28, 3) := by decide +kernel
theorem dX7_result_61 : decode cX7_result 61 = .ok (.bipush 6, 2) := by decide +kernel
theorem dX7_result_63 : decode cX7_result 63 = .ok (.iload_n 3, 1) := by decide +kernel
theorem dX7_result_64 : decode cX7_result 64 = .ok (.imul, 1) := by decide +kernel
theorem dX7_result_65 : decode cX7_result 65 = .ok (.iload_n 1, 1) := by decide +kernel
theorem dX7_result_66 : decode cX7_result 66 = .ok (.iadd, 1) := by decide +kernel
theorem dX7_result_67 : decode cX7_result 67 = .ok (.iaload, 1) := by decide +kernel
theorem dX7_result_68 : decode cX7_result 68 = .ok (.istore 4, 2) := by decide +kernel
theorem dX7_result_70 : decode cX7_result 70 = .ok (.aload_n 0, 1) := by decide +kernel
theorem dX7_result_71 : decode cX7_result 71 = .ok (.getfield 28, 3) := by decide +kernel
theorem dX7_result_74 : decode cX7_result 74 = .ok (.bipush 6, 2) := by decide +kernel
theorem dX7_result_76 : decode cX7_result 76 = .ok (.iload_n 3, 1) := by decide +kernel
theorem dX7_result_77 : decode cX7_result 77 = .ok (.imul, 1) := by decide +kernel
theorem dX7_result_78 : decode cX7_result 78 = .ok (.iload_n 1, 1) := by decide +kernel
theorem dX7_result_79 : decode cX7_result 79 = .ok (.iadd, 1) := by decide +kernel
theorem dX7_result_80 : decode cX7_result 80 = .ok (.iload_n 2, 1) := by decide +kernel
theorem dX7_result_81 : decode cX7_result 81 = .ok (.iastore, 1) := by decide +kernel
theorem dX7_result_82 : decode cX7_result 82 = .ok (.iload 4, 2) := by decide +kernel
theorem dX7_result_84 : decode cX7_result 84 = .ok (.ireturn, 1) := by decide +kernel
theorem dX7_withResult_0 : decode cX7_withResult 0 = .ok (.iconst 0, 1) := by decide +kernel
theorem dX7_withResult_1 : decode cX7_withResult 1 = .ok (.istore_n 1, 1) := by decide +kernel
theorem dX7_withResult_2 : decode cX7_withResult 2 = .ok (.iconst 0, 1) := by decide +kernel
theorem dX7_withResult_3 : decode cX7_withResult 3 = .ok (.istore_n 2, 1) := by decide +kernel
theorem dX7_withResult_4 : decode cX7_withResult 4 = .ok (.iload_n 2, 1) := by decide +kernel
theorem dX7_withResult_5 : decode cX7_withResult 5 = .ok (.aload_n 0, 1) := by decide +kernel
theorem dX7_withResult_6 : decode cX7_withResult 6 = .ok (.getfield 16, 3) := by decide +kernel
theorem dX7_withResult_9 : decode cX7_withResult 9 = .ok (.aload_n 0, 1) := by decide +kernel
theorem dX7_withResult_10 : decode cX7_withResult 10 = .ok (.getfield 89, 3) := by decide +kernel
theorem dX7_withResult_13 : decode cX7_withResult 13 = .ok (.iconst 1, 1) := by decide +kernel
theorem dX7_withResult_14 : decode cX7_withResult 14 = .ok (.isub, 1) := by decide +kernel
theorem dX7_withResult_15 : decode cX7_withResult 15 = .ok (.iaload, 1) := by decide +kernel
theorem dX7_withResult_16 : decode cX7_withResult 16 = .ok (.if_icmp .ge 36, 3) := by decide +kernel
theorem dX7_withResult_19 : decode cX7_withResult 19 = .ok (.iload_n 1, 1) := by decide +kernel
theorem dX7_withResult_20 : decode cX7_withResult 20 = .ok (.aload_n 0, 1) := by decide +kernel
theorem dX7_withResult_21 : decode cX7_withResult 21 = .ok (.getfield 28, 3) := by decide +kernel
theorem dX7_withResult_24 : decode cX7_withResult 24 = .ok (.bipush 6, 2) := by decide +kernel
theorem dX7_withResult_26 : decode cX7_withResult 26 = .ok (.aload_n 0, 1) := by decide +kernel
theorem dX7_withResult_27 : decode cX7_withResult 27 = .ok (.getfield 89, 3) := by decide +kernel
theorem dX7_withResult_30 : decode cX7_withResult 30 = .ok (.iconst 1, 1) := by decide +kernel
theorem dX7_withResult_31 : decode cX7_withResult 31 = .ok (.isub, 1) := by decide +kernel
theorem dX7_withResult_32 : decode cX7_withResult 32 = .ok (.imul, 1) := by decide +kernel
theorem dX7_withResult_33 : decode cX7_withResult 33 = .ok (.iload_n 2, 1) := by decide +kernel
theorem dX7_withResult_34 : decode cX7_withResult 34 = .ok (.iadd, 1) := by decide +kernel
theorem dX7_withResult_35 : decode cX7_withResult 35 = .ok (.iaload, 1) := by decide +kernel
theorem dX7_withResult_36 : decode cX7_withResult 36 = .ok (.ifCond .le 7, 3) := by decide +kernel
theorem dX7_withResult_39 : decode cX7_withResult 39 = .ok (.iconst 1, 1) := by decide +kernel
theorem dX7_withResult_40 : decode cX7_withResult 40 = .ok (.goto 4, 3) := by decide +kernel
theorem dX7_withResult_43 : decode cX7_withResult 43 = .ok (.iconst 0, 1) := by decide +kernel
theorem dX7_withResult_44 : decode cX7_withResult 44 = .ok (.iadd, 1) := by decide +kernel
theorem dX7_withResult_45 : decode cX7_withResult 45 = .ok (.istore_n 1, 1) := by decide +kernel
theorem dX7_withResult_46 : decode cX7_withResult 46 = .ok (.iinc 2 1, 3) := by decide +kernel
theorem dX7_withResult_49 : decode cX7_withResult 49 = .ok (.goto (-45), 3) := by decide +kernel
theorem dX7_withResult_52 : decode cX7_withResult 52 = .ok (.iload_n 1, 1) := by decide +kernel
theorem dX7_withResult_53 : decode cX7_withResult 53 = .ok (.ireturn, 1) := by decide +kernel
theorem dX7_close_0 : decode cX7_close 0 = .ok (.aload_n 0, 1) := by decide +kernel
theorem dX7_close_1 : decode cX7_close 1 = .ok (.iconst 0, 1) := by decide +kernel
theorem dX7_close_2 : decode cX7_close 2 = .ok (.putfield 75, 3) := by decide +kernel
theorem dX7_close_5 : decode cX7_close 5 = .ok (.aload_n 0, 1) := by decide +kernel
theorem dX7_close_6 : decode cX7_close 6 = .ok (.getfield 92, 3) := by decide +kernel
theorem dX7_close_9 : decode cX7_close 9 = .ok (.ifCond .eq 21, 3) := by decide +kernel
theorem dX7_close_12 : decode cX7_close 12 = .ok (.aload_n 0, 1) := by decide +kernel
theorem dX7_close_13 : decode cX7_close 13 = .ok (.invokevirtual 230, 3) := by decide +kernel
theorem dX7_close_16 : decode cX7_close 16 = .ok (.aload_n 0, 1) := by decide +kernel
theorem dX7_close_17 : decode cX7_close 17 = .ok (.getfield 16, 3) := by decide +kernel
theorem dX7_close_20 : decode cX7_close 20 = .ok (.aload_n 0, 1) := by decide +kernel
theorem dX7_close_21 : decode cX7_close 21 = .ok (.getfield 89, 3) := by decide +kernel
theorem dX7_close_24 : decode cX7_close 24 = .ok (.iconst 1, 1) := by decide +kernel
theorem dX7_close_25 : decode cX7_close 25 = .ok (.isub, 1) := by decide +kernel
theorem dX7_close_26 : decode cX7_close 26 = .ok (.iaload, 1) := by decide +kernel
theorem dX7_close_27 : decode cX7_close 27 = .ok (.if_icmp .ge 6, 3) := by decide +kernel
theorem dX7_close_30 : decode cX7_close 30 = .ok (.bipush (-3), 2) := by decide +kernel
theorem dX7_close_32 : decode cX7_close 32 = .ok (.ireturn, 1) := by decide +kernel
theorem dX7_close_33 : decode cX7_close 33 = .ok (.aload_n 0, 1) := by decide +kernel
theorem dX7_close_34 : decode cX7_close 34 = .ok (.iconst 0, 1) := by decide +kernel
theorem dX7_close_35 : decode cX7_close 35 = .ok (.putfield 92, 3) := by decide +kernel
theorem dX7_close_38 : decode cX7_close 38 = .ok (.aload_n 0, 1) := by decide +kernel
theorem dX7_close_39 : decode cX7_close 39 = .ok (.getfield 89, 3) := by decide +kernel
theorem dX7_close_42 : decode cX7_close 42 = .ok (.ireturn, 1) := by decide +kernel
theorem dX7_drop_0 : decode cX7_drop 0 = .ok (.aload_n 0, 1) := by decide +kernel
theorem dX7_drop_1 : decode cX7_drop 1 = .ok (.iconst 0, 1) := by decide +kernel
theorem dX7_drop_2 : decode cX7_drop 2 = .ok (.putfield 75, 3) := by decide +kernel
theorem dX7_drop_5 : decode cX7_drop 5 = .ok (.aload_n 0, 1) := by decide +kernel
theorem dX7_drop_6 : decode cX7_drop 6 = .ok (.getfield 89, 3) := by decide +kernel
theorem dX7_drop_9 : decode cX7_drop 9 = .ok (.ifCond .ne 6, 3) := by decide +kernel
theorem dX7_drop_12 : decode cX7_drop 12 = .ok (.bipush (-3), 2) := by decide +kernel
theorem dX7_drop_14 : decode cX7_drop 14 = .ok (.ireturn, 1) := by decide +kernel
theorem dX7_drop_15 : decode cX7_drop 15 = .ok (.aload_n 0, 1) := by decide +kernel
theorem dX7_drop_16 : decode cX7_drop 16 = .ok (.dup, 1) := by decide +kernel
theorem dX7_drop_17 : decode cX7_drop 17 = .ok (.getfield 89, 3) := by decide +kernel
theorem dX7_drop_20 : decode cX7_drop 20 = .ok (.iconst 1, 1) := by decide +kernel
theorem dX7_drop_21 : decode cX7_drop 21 = .ok (.isub, 1) := by decide +kernel
theorem dX7_drop_22 : decode cX7_drop 22 = .ok (.putfield 89, 3) := by decide +kernel
theorem dX7_drop_25 : decode cX7_drop 25 = .ok (.aload_n 0, 1) := by decide +kernel
theorem dX7_drop_26 : decode cX7_drop 26 = .ok (.iconst 0, 1) := by decide +kernel
theorem dX7_drop_27 : decode cX7_drop 27 = .ok (.putfield 92, 3) := by decide +kernel
theorem dX7_drop_30 : decode cX7_drop 30 = .ok (.aload_n 0, 1) := by decide +kernel
theorem dX7_drop_31 : decode cX7_drop 31 = .ok (.getfield 89, 3) := by decide +kernel
theorem dX7_drop_34 : decode cX7_drop 34 = .ok (.ireturn, 1) := by decide +kernel
theorem dX7_game_0 : decode cX7_game 0 = .ok (.aload_n 0, 1) := by decide +kernel
theorem dX7_game_1 : decode cX7_game 1 = .ok (.iconst 0, 1) := by decide +kernel
theorem dX7_game_2 : decode cX7_game 2 = .ok (.putfield 75, 3) := by decide +kernel
theorem dX7_game_5 : decode cX7_game 5 = .ok (.aload_n 0, 1) := by decide +kernel
theorem dX7_game_6 : decode cX7_game 6 = .ok (.iload_n 1, 1) := by decide +kernel
theorem dX7_game_7 : decode cX7_game 7 = .ok (.invokevirtual 85, 3) := by decide +kernel
theorem dX7_game_10 : decode cX7_game 10 = .ok (.ifCond .eq 31, 3) := by decide +kernel
theorem dX7_game_13 : decode cX7_game 13 = .ok (.iload_n 2, 1) := by decide +kernel
theorem dX7_game_14 : decode cX7_game 14 = .ok (.i2l, 1) := by decide +kernel
theorem dX7_game_15 : decode cX7_game 15 = .ok (.lconst 0, 1) := by decide +kernel
theorem dX7_game_16 : decode cX7_game 16 = .ok (.aload_n 0, 1) := by decide +kernel
theorem dX7_game_17 : decode cX7_game 17 = .ok (.getfield 89, 3) := by decide +kernel
theorem dX7_game_20 : decode cX7_game 20 = .ok (.iconst 1, 1) := by decide +kernel
theorem dX7_game_21 : decode cX7_game 21 = .ok (.isub, 1) := by decide +kernel
theorem dX7_game_22 : decode cX7_game 22 = .ok (.i2l, 1) := by decide +kernel
theorem dX7_game_23 : decode cX7_game 23 = .ok (.invokestatic 81, 3) := by decide +kernel
theorem dX7_game_26 : decode cX7_game 26 = .ok (.ifCond .eq 15, 3) := by decide +kernel
theorem dX7_game_29 : decode cX7_game 29 = .ok (.iload_n 3, 1) := by decide +kernel
theorem dX7_game_30 : decode cX7_game 30 = .ok (.i2l, 1) := by decide +kernel
theorem dX7_game_31 : decode cX7_game 31 = .ok (.lconst 0, 1) := by decide +kernel
theorem dX7_game_32 : decode cX7_game 32 = .ok (.ldc2_w 226, 3) := by decide +kernel
theorem dX7_game_35 : decode cX7_game 35 = .ok (.invokestatic 81, 3) := by decide +kernel
theorem dX7_game_38 : decode cX7_game 38 = .ok (.ifCond .ne 5, 3) := by decide +kernel
theorem dX7_game_41 : decode cX7_game 41 = .ok (.iconst (-1), 1) := by decide +kernel
theorem dX7_game_42 : decode cX7_game 42 = .ok (.ireturn, 1) := by decide +kernel
theorem dX7_game_43 : decode cX7_game 43 = .ok (.aload_n 0, 1) := by decide +kernel
theorem dX7_game_44 : decode cX7_game 44 = .ok (.iload_n 1, 1) := by decide +kernel
theorem dX7_game_45 : decode cX7_game 45 = .ok (.iload_n 2, 1) := by decide +kernel
theorem dX7_game_46 : decode cX7_game 46 = .ok (.invokevirtual 95, 3) := by decide +kernel
theorem dX7_game_49 : decode cX7_game 49 = .ok (.istore 4, 2) := by decide +kernel
theorem dX7_game_51 : decode cX7_game 51 = .ok (.iload_n 3, 1) := by decide +kernel
theorem dX7_game_52 : decode cX7_game 52 = .ok (.iconst 2, 1) := by decide +kernel
theorem dX7_game_53 : decode cX7_game 53 = .ok (.if_icmp .ne 23, 3) := by decide +kernel
theorem dX7_game_56 : decode cX7_game 56 = .ok (.iload_n 2, 1) := by decide +kernel
theorem dX7_game_57 : decode cX7_game 57 = .ok (.aload_n 0, 1) := by decide +kernel
theorem dX7_game_58 : decode cX7_game 58 = .ok (.invokevirtual 99, 3) := by decide +kernel
theorem dX7_game_61 : decode cX7_game 61 = .ok (.if_icmp .lt 8, 3) := by decide +kernel
theorem dX7_game_64 : decode cX7_game 64 = .ok (.bipush (-5), 2) := by decide +kernel
theorem dX7_game_66 : decode cX7_game 66 = .ok (.goto 9, 3) := by decide +kernel
theorem dX7_game_69 : decode cX7_game 69 = .ok (.aload_n 0, 1) := by decide +kernel
theorem dX7_game_70 : decode cX7_game 70 = .ok (.iload_n 1, 1) := by decide +kernel
theorem dX7_game_71 : decode cX7_game 71 = .ok (.iload_n 2, 1) := by decide +kernel
theorem dX7_game_72 : decode cX7_game 72 = .ok (.invokevirtual 108, 3) := by decide +kernel
theorem dX7_game_75 : decode cX7_game 75 = .ok (.ireturn, 1) := by decide +kernel
theorem dX7_game_76 : decode cX7_game 76 = .ok (.iload 4, 2) := by decide +kernel
theorem dX7_game_78 : decode cX7_game 78 = .ok (.ifCond .ge 8, 3) := by decide +kernel
theorem dX7_game_81 : decode cX7_game 81 = .ok (.bipush (-5), 2) := by decide +kernel
theorem dX7_game_83 : decode cX7_game 83 = .ok (.goto 33, 3) := by decide +kernel
theorem dX7_game_86 : decode cX7_game 86 = .ok (.iload_n 3, 1) := by decide +kernel
theorem dX7_game_87 : decode cX7_game 87 = .ok (.ifCond .ne 13, 3) := by decide +kernel
theorem dX7_game_90 : decode cX7_game 90 = .ok (.aload_n 0, 1) := by decide +kernel
theorem dX7_game_91 : decode cX7_game 91 = .ok (.iload 4, 2) := by decide +kernel
theorem dX7_game_93 : decode cX7_game 93 = .ok (.iload_n 1, 1) := by decide +kernel
theorem dX7_game_94 : decode cX7_game 94 = .ok (.invokevirtual 117, 3) := by decide +kernel
theorem dX7_game_97 : decode cX7_game 97 = .ok (.goto 19, 3) := by decide +kernel
theorem dX7_game_100 : decode cX7_game 100 = .ok (.aload_n 0, 1) := by decide +kernel
theorem dX7_game_101 : decode cX7_game 101 = .ok (.getfield 22, 3) := by decide +kernel
theorem dX7_game_104 : decode cX7_game 104 = .ok (.iload 4, 2) := by decide +kernel
theorem dX7_game_106 : decode cX7_game 106 = .ok (.iaload, 1) := by decide +kernel
theorem dX7_game_107 : decode cX7_game 107 = .ok (.iload_n 1, 1) := by decide +kernel
theorem dX7_game_108 : decode cX7_game 108 = .ok (.if_icmp .ne 7, 3) := by decide +kernel
theorem dX7_game_111 : decode cX7_game 111 = .ok (.iconst 0, 1) := by decide +kernel
theorem dX7_game_112 : decode cX7_game 112 = .ok (.goto 4, 3) := by decide +kernel
theorem dX7_game_115 : decode cX7_game 115 = .ok (.iconst 1, 1) := by decide +kernel
theorem dX7_game_116 : decode cX7_game 116 = .ok (.ireturn, 1) := by decide +kernel
theorem dX7_feed_0 : decode cX7_feed 0 = .ok (.aload_n 0, 1) := by decide +kernel
theorem dX7_feed_1 : decode cX7_feed 1 = .ok (.iconst 0, 1) := by decide +kernel
theorem dX7_feed_2 : decode cX7_feed 2 = .ok (.putfield 75, 3) := by decide +kernel
theorem dX7_feed_5 : decode cX7_feed 5 = .ok (.iload_n 1, 1) := by decide +kernel
theorem dX7_feed_6 : decode cX7_feed 6 = .ok (.i2l, 1) := by decide +kernel
theorem dX7_feed_7 : decode cX7_feed 7 = .ok (.lconst 1, 1) := by decide +kernel
theorem dX7_feed_8 : decode cX7_feed 8 = .ok (.ldc2_w 233, 3) := by decide +kernel
theorem dX7_feed_11 : decode cX7_feed 11 = .ok (.invokestatic 81, 3) := by decide +kernel
theorem dX7_feed_14 : decode cX7_feed 14 = .ok (.ifCond .ne 6, 3) := by decide +kernel
theorem dX7_feed_17 : decode cX7_feed 17 = .ok (.bipush (-2), 2) := by decide +kernel
theorem dX7_feed_19 : decode cX7_feed 19 = .ok (.ireturn, 1) := by decide +kernel
theorem dX7_feed_20 : decode cX7_feed 20 = .ok (.aload_n 0, 1) := by decide +kernel
theorem dX7_feed_21 : decode cX7_feed 21 = .ok (.getfield 235, 3) := by decide +kernel
theorem dX7_feed_24 : decode cX7_feed 24 = .ok (.bipush 40, 2) := by decide +kernel
theorem dX7_feed_26 : decode cX7_feed 26 = .ok (.if_icmp .ne 6, 3) := by decide +kernel
theorem dX7_feed_29 : decode cX7_feed 29 = .ok (.bipush (-4), 2) := by decide +kernel
theorem dX7_feed_31 : decode cX7_feed 31 = .ok (.ireturn, 1) := by decide +kernel
theorem dX7_feed_32 : decode cX7_feed 32 = .ok (.aload_n 0, 1) := by decide +kernel
theorem dX7_feed_33 : decode cX7_feed 33 = .ok (.getfield 56, 3) := by decide +kernel
theorem dX7_feed_36 : decode cX7_feed 36 = .ok (.aload_n 0, 1) := by decide +kernel
theorem dX7_feed_37 : decode cX7_feed 37 = .ok (.getfield 235, 3) := by decide +kernel
theorem dX7_feed_40 : decode cX7_feed 40 = .ok (.iload_n 1, 1) := by decide +kernel
theorem dX7_feed_41 : decode cX7_feed 41 = .ok (.iastore, 1) := by decide +kernel
theorem dX7_feed_42 : decode cX7_feed 42 = .ok (.aload_n 0, 1) := by decide +kernel
theorem dX7_feed_43 : decode cX7_feed 43 = .ok (.dup, 1) := by decide +kernel
theorem dX7_feed_44 : decode cX7_feed 44 = .ok (.getfield 235, 3) := by decide +kernel
theorem dX7_feed_47 : decode cX7_feed 47 = .ok (.iconst 1, 1) := by decide +kernel
theorem dX7_feed_48 : decode cX7_feed 48 = .ok (.iadd, 1) := by decide +kernel
theorem dX7_feed_49 : decode cX7_feed 49 = .ok (.putfield 235, 3) := by decide +kernel
theorem dX7_feed_52 : decode cX7_feed 52 = .ok (.aload_n 0, 1) := by decide +kernel
theorem dX7_feed_53 : decode cX7_feed 53 = .ok (.getfield 235, 3) := by decide +kernel
theorem dX7_feed_56 : decode cX7_feed 56 = .ok (.ireturn, 1) := by decide +kernel
theorem dX7_clear_0 : decode cX7_clear 0 = .ok (.aload_n 0, 1) := by decide +kernel
theorem dX7_clear_1 : decode cX7_clear 1 = .ok (.iconst 0, 1) := by decide +kernel
theorem dX7_clear_2 : decode cX7_clear 2 = .ok (.putfield 75, 3) := by decide +kernel
theorem dX7_clear_5 : decode cX7_clear 5 = .ok (.aload_n 0, 1) := by decide +kernel
theorem dX7_clear_6 : decode cX7_clear 6 = .ok (.getfield 235, 3) := by decide +kernel
theorem dX7_clear_9 : decode cX7_clear 9 = .ok (.istore_n 1, 1) := by decide +kernel
theorem dX7_clear_10 : decode cX7_clear 10 = .ok (.aload_n 0, 1) := by decide +kernel
theorem dX7_clear_11 : decode cX7_clear 11 = .ok (.iconst 0, 1) := by decide +kernel
theorem dX7_clear_12 : decode cX7_clear 12 = .ok (.putfield 235, 3) := by decide +kernel
theorem dX7_clear_15 : decode cX7_clear 15 = .ok (.iload_n 1, 1) := by decide +kernel
theorem dX7_clear_16 : decode cX7_clear 16 = .ok (.ireturn, 1) := by decide +kernel
theorem dX7_resultOf_0 : decode cX7_resultOf 0 = .ok (.iload_n 0, 1) := by decide +kernel
theorem dX7_resultOf_1 : decode cX7_resultOf 1 = .ok (.lookupswitch 72 #[(43, 65), (45, 67), (48, 63), (49, 59), (61, 61), (120, 69)], 59) := by decide +kernel
theorem dX7_resultOf_60 : decode cX7_resultOf 60 = .ok (.iconst 1, 1) := by decide +kernel
theorem dX7_resultOf_61 : decode cX7_resultOf 61 = .ok (.ireturn, 1) := by decide +kernel
theorem dX7_resultOf_62 : decode cX7_resultOf 62 = .ok (.iconst 2, 1) := by decide +kernel
theorem dX7_resultOf_63 : decode cX7_resultOf 63 = .ok (.ireturn, 1) := by decide +kernel
theorem dX7_resultOf_64 : decode cX7_resultOf 64 = .ok (.iconst 3, 1) := by decide +kernel
theorem dX7_resultOf_65 : decode cX7_resultOf 65 = .ok (.ireturn, 1) := by decide +kernel
theorem dX7_resultOf_66 : decode cX7_resultOf 66 = .ok (.iconst 4, 1) := by decide +kernel
theorem dX7_resultOf_67 : decode cX7_resultOf 67 = .ok (.ireturn, 1) := by decide +kernel
theorem dX7_resultOf_68 : decode cX7_resultOf 68 = .ok (.iconst 5, 1) := by decide +kernel
theorem dX7_resultOf_69 : decode cX7_resultOf 69 = .ok (.ireturn, 1) := by decide +kernel
theorem dX7_resultOf_70 : decode cX7_resultOf 70 = .ok (.bipush 6, 2) := by decide +kernel
theorem dX7_resultOf_72 : decode cX7_resultOf 72 = .ok (.ireturn, 1) := by decide +kernel
theorem dX7_resultOf_73 : decode cX7_resultOf 73 = .ok (.iload_n 0, 1) := by decide +kernel
theorem dX7_resultOf_74 : decode cX7_resultOf 74 = .ok (.bipush 46, 2) := by decide +kernel
theorem dX7_resultOf_76 : decode cX7_resultOf 76 = .ok (.if_icmp .ne 7, 3) := by decide +kernel
theorem dX7_resultOf_79 : decode cX7_resultOf 79 = .ok (.iconst 0, 1) := by decide +kernel
theorem dX7_resultOf_80 : decode cX7_resultOf 80 = .ok (.goto 4, 3) := by decide +kernel
theorem dX7_resultOf_83 : decode cX7_resultOf 83 = .ok (.iconst (-1), 1) := by decide +kernel
theorem dX7_resultOf_84 : decode cX7_resultOf 84 = .ok (.ireturn, 1) := by decide +kernel
theorem dX7_results_0 : decode cX7_results 0 = .ok (.aload_n 0, 1) := by decide +kernel
theorem dX7_results_1 : decode cX7_results 1 = .ok (.iconst 0, 1) := by decide +kernel
theorem dX7_results_2 : decode cX7_results 2 = .ok (.putfield 75, 3) := by decide +kernel
theorem dX7_results_5 : decode cX7_results 5 = .ok (.aload_n 0, 1) := by decide +kernel
theorem dX7_results_6 : decode cX7_results 6 = .ok (.getfield 235, 3) := by decide +kernel
theorem dX7_results_9 : decode cX7_results 9 = .ok (.istore_n 1, 1) := by decide +kernel
theorem dX7_results_10 : decode cX7_results 10 = .ok (.aload_n 0, 1) := by decide +kernel
theorem dX7_results_11 : decode cX7_results 11 = .ok (.iconst 0, 1) := by decide +kernel
theorem dX7_results_12 : decode cX7_results 12 = .ok (.putfield 235, 3) := by decide +kernel
theorem dX7_results_15 : decode cX7_results 15 = .ok (.aload_n 0, 1) := by decide +kernel
theorem dX7_results_16 : decode cX7_results 16 = .ok (.getfield 92, 3) := by decide +kernel
theorem dX7_results_19 : decode cX7_results 19 = .ok (.ifCond .ne 6, 3) := by decide +kernel
theorem dX7_results_22 : decode cX7_results 22 = .ok (.bipush (-3), 2) := by decide +kernel
theorem dX7_results_24 : decode cX7_results 24 = .ok (.ireturn, 1) := by decide +kernel
theorem dX7_results_25 : decode cX7_results 25 = .ok (.aload_n 0, 1) := by decide +kernel
theorem dX7_results_26 : decode cX7_results 26 = .ok (.getfield 89, 3) := by decide +kernel
theorem dX7_results_29 : decode cX7_results 29 = .ok (.iconst 1, 1) := by decide +kernel
theorem dX7_results_30 : decode cX7_results 30 = .ok (.isub, 1) := by decide +kernel
theorem dX7_results_31 : decode cX7_results 31 = .ok (.istore_n 2, 1) := by decide +kernel
theorem dX7_results_32 : decode cX7_results 32 = .ok (.iconst 0, 1) := by decide +kernel
theorem dX7_results_33 : decode cX7_results 33 = .ok (.istore_n 3, 1) := by decide +kernel
theorem dX7_results_34 : decode cX7_results 34 = .ok (.iload_n 3, 1) := by decide +kernel
theorem dX7_results_35 : decode cX7_results 35 = .ok (.iload_n 1, 1) := by decide +kernel
theorem dX7_results_36 : decode cX7_results 36 = .ok (.if_icmp .ge 31, 3) := by decide +kernel
theorem dX7_results_39 : decode cX7_results 39 = .ok (.iload_n 3, 1) := by decide +kernel
theorem dX7_results_40 : decode cX7_results 40 = .ok (.aload_n 0, 1) := by decide +kernel
theorem dX7_results_41 : decode cX7_results 41 = .ok (.getfield 16, 3) := by decide +kernel
theorem dX7_results_44 : decode cX7_results 44 = .ok (.iload_n 2, 1) := by decide +kernel
theorem dX7_results_45 : decode cX7_results 45 = .ok (.iaload, 1) := by decide +kernel
theorem dX7_results_46 : decode cX7_results 46 = .ok (.if_icmp .ge 21, 3) := by decide +kernel
theorem dX7_results_49 : decode cX7_results 49 = .ok (.aload_n 0, 1) := by decide +kernel
theorem dX7_results_50 : decode cX7_results 50 = .ok (.getfield 56, 3) := by decide +kernel
theorem dX7_results_53 : decode cX7_results 53 = .ok (.iload_n 3, 1) := by decide +kernel
theorem dX7_results_54 : decode cX7_results 54 = .ok (.iaload, 1) := by decide +kernel
theorem dX7_results_55 : decode cX7_results 55 = .ok (.invokestatic 238, 3) := by decide +kernel
theorem dX7_results_58 : decode cX7_results 58 = .ok (.ifCond .lt 9, 3) := by decide +kernel
theorem dX7_results_61 : decode cX7_results 61 = .ok (.iinc 3 1, 3) := by decide +kernel
theorem dX7_results_64 : decode cX7_results 64 = .ok (.goto (-30), 3) := by decide +kernel
theorem dX7_results_67 : decode cX7_results 67 = .ok (.iload_n 3, 1) := by decide +kernel
theorem dX7_results_68 : decode cX7_results 68 = .ok (.iload_n 1, 1) := by decide +kernel
theorem dX7_results_69 : decode cX7_results 69 = .ok (.if_icmp .lt 13, 3) := by decide +kernel
theorem dX7_results_72 : decode cX7_results 72 = .ok (.iload_n 3, 1) := by decide +kernel
theorem dX7_results_73 : decode cX7_results 73 = .ok (.aload_n 0, 1) := by decide +kernel
theorem dX7_results_74 : decode cX7_results 74 = .ok (.getfield 16, 3) := by decide +kernel
theorem dX7_results_77 : decode cX7_results 77 = .ok (.iload_n 2, 1) := by decide +kernel
theorem dX7_results_78 : decode cX7_results 78 = .ok (.iaload, 1) := by decide +kernel
theorem dX7_results_79 : decode cX7_results 79 = .ok (.if_icmp .ge 8, 3) := by decide +kernel
theorem dX7_results_82 : decode cX7_results 82 = .ok (.bipush (-100), 2) := by decide +kernel
theorem dX7_results_84 : decode cX7_results 84 = .ok (.iload_n 3, 1) := by decide +kernel
theorem dX7_results_85 : decode cX7_results 85 = .ok (.isub, 1) := by decide +kernel
theorem dX7_results_86 : decode cX7_results 86 = .ok (.ireturn, 1) := by decide +kernel
theorem dX7_results_87 : decode cX7_results 87 = .ok (.iconst 0, 1) := by decide +kernel
theorem dX7_results_88 : decode cX7_results 88 = .ok (.istore 4, 2) := by decide +kernel
theorem dX7_results_90 : decode cX7_results 90 = .ok (.iload 4, 2) := by decide +kernel
theorem dX7_results_92 : decode cX7_results 92 = .ok (.iload_n 1, 1) := by decide +kernel
theorem dX7_results_93 : decode cX7_results 93 = .ok (.if_icmp .ge 55, 3) := by decide +kernel
theorem dX7_results_96 : decode cX7_results 96 = .ok (.aload_n 0, 1) := by decide +kernel
theorem dX7_results_97 : decode cX7_results 97 = .ok (.getfield 56, 3) := by decide +kernel
theorem dX7_results_100 : decode cX7_results 100 = .ok (.iload 4, 2) := by decide +kernel
theorem dX7_results_102 : decode cX7_results 102 = .ok (.iaload, 1) := by decide +kernel
theorem dX7_results_103 : decode cX7_results 103 = .ok (.invokestatic 238, 3) := by decide +kernel
theorem dX7_results_106 : decode cX7_results 106 = .ok (.istore 5, 2) := by decide +kernel
theorem dX7_results_108 : decode cX7_results 108 = .ok (.aload_n 0, 1) := by decide +kernel
theorem dX7_results_109 : decode cX7_results 109 = .ok (.getfield 28, 3) := by decide +kernel
theorem dX7_results_112 : decode cX7_results 112 = .ok (.bipush 6, 2) := by decide +kernel
theorem dX7_results_114 : decode cX7_results 114 = .ok (.iload_n 2, 1) := by decide +kernel
theorem dX7_results_115 : decode cX7_results 115 = .ok (.imul, 1) := by decide +kernel
theorem dX7_results_116 : decode cX7_results 116 = .ok (.iload 4, 2) := by decide +kernel
theorem dX7_results_118 : decode cX7_results 118 = .ok (.iadd, 1) := by decide +kernel
theorem dX7_results_119 : decode cX7_results 119 = .ok (.iload 5, 2) := by decide +kernel
theorem dX7_results_121 : decode cX7_results 121 = .ok (.ifCond .ne 18, 3) := by decide +kernel
theorem dX7_results_124 : decode cX7_results 124 = .ok (.aload_n 0, 1) := by decide +kernel
theorem dX7_results_125 : decode cX7_results 125 = .ok (.getfield 28, 3) := by decide +kernel
theorem dX7_results_128 : decode cX7_results 128 = .ok (.bipush 6, 2) := by decide +kernel
theorem dX7_results_130 : decode cX7_results 130 = .ok (.iload_n 2, 1) := by decide +kernel
theorem dX7_results_131 : decode cX7_results 131 = .ok (.imul, 1) := by decide +kernel
theorem dX7_results_132 : decode cX7_results 132 = .ok (.iload 4, 2) := by decide +kernel
theorem dX7_results_134 : decode cX7_results 134 = .ok (.iadd, 1) := by decide +kernel
theorem dX7_results_135 : decode cX7_results 135 = .ok (.iaload, 1) := by decide +kernel
theorem dX7_results_136 : decode cX7_results 136 = .ok (.goto 5, 3) := by decide +kernel
theorem dX7_results_139 : decode cX7_results 139 = .ok (.iload 5, 2) := by decide +kernel
theorem dX7_results_141 : decode cX7_results 141 = .ok (.iastore, 1) := by decide +kernel
theorem dX7_results_142 : decode cX7_results 142 = .ok (.iinc 4 1, 3) := by decide +kernel
theorem dX7_results_145 : decode cX7_results 145 = .ok (.goto (-55), 3) := by decide +kernel
theorem dX7_results_148 : decode cX7_results 148 = .ok (.aload_n 0, 1) := by decide +kernel
theorem dX7_results_149 : decode cX7_results 149 = .ok (.invokevirtual 230, 3) := by decide +kernel
theorem dX7_results_152 : decode cX7_results 152 = .ok (.ireturn, 1) := by decide +kernel
theorem dX7_tieBy_0 : decode cX7_tieBy 0 = .ok (.iload_n 0, 1) := by decide +kernel
theorem dX7_tieBy_1 : decode cX7_tieBy 1 = .ok (.tableswitch 119 98 119 #[107, 105, 116, 119, 119, 113, 119, 119, 119, 111, 119, 119, 119, 103, 119, 119, 119, 119, 119, 119, 119, 109], 103) := by decide +kernel
theorem dX7_tieBy_104 : decode cX7_tieBy 104 = .ok (.iconst 1, 1) := by decide +kernel
theorem dX7_tieBy_105 : decode cX7_tieBy 105 = .ok (.ireturn, 1) := by decide +kernel
theorem dX7_tieBy_106 : decode cX7_tieBy 106 = .ok (.iconst 2, 1) := by decide +kernel
theorem dX7_tieBy_107 : decode cX7_tieBy 107 = .ok (.ireturn, 1) := by decide +kernel
theorem dX7_tieBy_108 : decode cX7_tieBy 108 = .ok (.iconst 3, 1) := by decide +kernel
theorem dX7_tieBy_109 : decode cX7_tieBy 109 = .ok (.ireturn, 1) := by decide +kernel
theorem dX7_tieBy_110 : decode cX7_tieBy 110 = .ok (.iconst 4, 1) := by decide +kernel
theorem dX7_tieBy_111 : decode cX7_tieBy 111 = .ok (.ireturn, 1) := by decide +kernel
theorem dX7_tieBy_112 : decode cX7_tieBy 112 = .ok (.iconst 5, 1) := by decide +kernel
theorem dX7_tieBy_113 : decode cX7_tieBy 113 = .ok (.ireturn, 1) := by decide +kernel
theorem dX7_tieBy_114 : decode cX7_tieBy 114 = .ok (.bipush 6, 2) := by decide +kernel
theorem dX7_tieBy_116 : decode cX7_tieBy 116 = .ok (.ireturn, 1) := by decide +kernel
theorem dX7_tieBy_117 : decode cX7_tieBy 117 = .ok (.bipush 7, 2) := by decide +kernel
theorem dX7_tieBy_119 : decode cX7_tieBy 119 = .ok (.ireturn, 1) := by decide +kernel
theorem dX7_tieBy_120 : decode cX7_tieBy 120 = .ok (.iload_n 0, 1) := by decide +kernel
theorem dX7_tieBy_121 : decode cX7_tieBy 121 = .ok (.bipush 114, 2) := by decide +kernel
theorem dX7_tieBy_123 : decode cX7_tieBy 123 = .ok (.if_icmp .ne 8, 3) := by decide +kernel
theorem dX7_tieBy_126 : decode cX7_tieBy 126 = .ok (.bipush 8, 2) := by decide +kernel
theorem dX7_tieBy_128 : decode cX7_tieBy 128 = .ok (.goto 4, 3) := by decide +kernel
theorem dX7_tieBy_131 : decode cX7_tieBy 131 = .ok (.iconst (-1), 1) := by decide +kernel
theorem dX7_tieBy_132 : decode cX7_tieBy 132 = .ok (.ireturn, 1) := by decide +kernel
theorem dX7_isAgain_0 : decode cX7_isAgain 0 = .ok (.iconst 0, 1) := by decide +kernel
theorem dX7_isAgain_1 : decode cX7_isAgain 1 = .ok (.istore_n 2, 1) := by decide +kernel
theorem dX7_isAgain_2 : decode cX7_isAgain 2 = .ok (.iconst 0, 1) := by decide +kernel
theorem dX7_isAgain_3 : decode cX7_isAgain 3 = .ok (.istore_n 3, 1) := by decide +kernel
theorem dX7_isAgain_4 : decode cX7_isAgain 4 = .ok (.iload_n 3, 1) := by decide +kernel
theorem dX7_isAgain_5 : decode cX7_isAgain 5 = .ok (.iload_n 1, 1) := by decide +kernel
theorem dX7_isAgain_6 : decode cX7_isAgain 6 = .ok (.if_icmp .ge 34, 3) := by decide +kernel
theorem dX7_isAgain_9 : decode cX7_isAgain 9 = .ok (.iload_n 2, 1) := by decide +kernel
theorem dX7_isAgain_10 : decode cX7_isAgain 10 = .ok (.ifCond .ne 18, 3) := by decide +kernel
theorem dX7_isAgain_13 : decode cX7_isAgain 13 = .ok (.aload_n 0, 1) := by decide +kernel
theorem dX7_isAgain_14 : decode cX7_isAgain 14 = .ok (.getfield 56, 3) := by decide +kernel
theorem dX7_isAgain_17 : decode cX7_isAgain 17 = .ok (.iload_n 3, 1) := by decide +kernel
theorem dX7_isAgain_18 : decode cX7_isAgain 18 = .ok (.iaload, 1) := by decide +kernel
theorem dX7_isAgain_19 : decode cX7_isAgain 19 = .ok (.aload_n 0, 1) := by decide +kernel
theorem dX7_isAgain_20 : decode cX7_isAgain 20 = .ok (.getfield 56, 3) := by decide +kernel
theorem dX7_isAgain_23 : decode cX7_isAgain 23 = .ok (.iload_n 1, 1) := by decide +kernel
theorem dX7_isAgain_24 : decode cX7_isAgain 24 = .ok (.iaload, 1) := by decide +kernel
theorem dX7_isAgain_25 : decode cX7_isAgain 25 = .ok (.if_icmp .ne 7, 3) := by decide +kernel
theorem dX7_isAgain_28 : decode cX7_isAgain 28 = .ok (.iconst 1, 1) := by decide +kernel
theorem dX7_isAgain_29 : decode cX7_isAgain 29 = .ok (.goto 4, 3) := by decide +kernel
theorem dX7_isAgain_32 : decode cX7_isAgain 32 = .ok (.iconst 0, 1) := by decide +kernel
theorem dX7_isAgain_33 : decode cX7_isAgain 33 = .ok (.istore_n 2, 1) := by decide +kernel
theorem dX7_isAgain_34 : decode cX7_isAgain 34 = .ok (.iinc 3 1, 3) := by decide +kernel
theorem dX7_isAgain_37 : decode cX7_isAgain 37 = .ok (.goto (-33), 3) := by decide +kernel
theorem dX7_isAgain_40 : decode cX7_isAgain 40 = .ok (.iload_n 2, 1) := by decide +kernel
theorem dX7_isAgain_41 : decode cX7_isAgain 41 = .ok (.ireturn, 1) := by decide +kernel
theorem dX7_order_0 : decode cX7_order 0 = .ok (.aload_n 0, 1) := by decide +kernel
theorem dX7_order_1 : decode cX7_order 1 = .ok (.iconst 0, 1) := by decide +kernel
theorem dX7_order_2 : decode cX7_order 2 = .ok (.putfield 75, 3) := by decide +kernel
theorem dX7_order_5 : decode cX7_order 5 = .ok (.aload_n 0, 1) := by decide +kernel
theorem dX7_order_6 : decode cX7_order 6 = .ok (.getfield 235, 3) := by decide +kernel
theorem dX7_order_9 : decode cX7_order 9 = .ok (.istore_n 1, 1) := by decide +kernel
theorem dX7_order_10 : decode cX7_order 10 = .ok (.aload_n 0, 1) := by decide +kernel
theorem dX7_order_11 : decode cX7_order 11 = .ok (.iconst 0, 1) := by decide +kernel
theorem dX7_order_12 : decode cX7_order 12 = .ok (.putfield 235, 3) := by decide +kernel
theorem dX7_order_15 : decode cX7_order 15 = .ok (.iconst 0, 1) := by decide +kernel
theorem dX7_order_16 : decode cX7_order 16 = .ok (.istore_n 2, 1) := by decide +kernel
theorem dX7_order_17 : decode cX7_order 17 = .ok (.iload_n 2, 1) := by decide +kernel
theorem dX7_order_18 : decode cX7_order 18 = .ok (.iload_n 1, 1) := by decide +kernel
theorem dX7_order_19 : decode cX7_order 19 = .ok (.if_icmp .ge 29, 3) := by decide +kernel
theorem dX7_order_22 : decode cX7_order 22 = .ok (.aload_n 0, 1) := by decide +kernel
theorem dX7_order_23 : decode cX7_order 23 = .ok (.getfield 56, 3) := by decide +kernel
theorem dX7_order_26 : decode cX7_order 26 = .ok (.iload_n 2, 1) := by decide +kernel
theorem dX7_order_27 : decode cX7_order 27 = .ok (.iaload, 1) := by decide +kernel
theorem dX7_order_28 : decode cX7_order 28 = .ok (.invokestatic 241, 3) := by decide +kernel
theorem dX7_order_31 : decode cX7_order 31 = .ok (.ifCond .le 17, 3) := by decide +kernel
theorem dX7_order_34 : decode cX7_order 34 = .ok (.aload_n 0, 1) := by decide +kernel
theorem dX7_order_35 : decode cX7_order 35 = .ok (.iload_n 2, 1) := by decide +kernel
theorem dX7_order_36 : decode cX7_order 36 = .ok (.invokevirtual 244, 3) := by decide +kernel
theorem dX7_order_39 : decode cX7_order 39 = .ok (.ifCond .ne 9, 3) := by decide +kernel
theorem dX7_order_42 : decode cX7_order 42 = .ok (.iinc 2 1, 3) := by decide +kernel
theorem dX7_order_45 : decode cX7_order 45 = .ok (.goto (-28), 3) := by decide +kernel
theorem dX7_order_48 : decode cX7_order 48 = .ok (.iload_n 2, 1) := by decide +kernel
theorem dX7_order_49 : decode cX7_order 49 = .ok (.iload_n 1, 1) := by decide +kernel
theorem dX7_order_50 : decode cX7_order 50 = .ok (.if_icmp .lt 7, 3) := by decide +kernel
theorem dX7_order_53 : decode cX7_order 53 = .ok (.iload_n 1, 1) := by decide +kernel
theorem dX7_order_54 : decode cX7_order 54 = .ok (.ifCond .ne 8, 3) := by decide +kernel
theorem dX7_order_57 : decode cX7_order 57 = .ok (.bipush (-100), 2) := by decide +kernel
theorem dX7_order_59 : decode cX7_order 59 = .ok (.iload_n 2, 1) := by decide +kernel
theorem dX7_order_60 : decode cX7_order 60 = .ok (.isub, 1) := by decide +kernel
theorem dX7_order_61 : decode cX7_order 61 = .ok (.ireturn, 1) := by decide +kernel
theorem dX7_order_62 : decode cX7_order 62 = .ok (.iconst 0, 1) := by decide +kernel
theorem dX7_order_63 : decode cX7_order 63 = .ok (.istore_n 3, 1) := by decide +kernel
theorem dX7_order_64 : decode cX7_order 64 = .ok (.iload_n 3, 1) := by decide +kernel
theorem dX7_order_65 : decode cX7_order 65 = .ok (.iload_n 1, 1) := by decide +kernel
theorem dX7_order_66 : decode cX7_order 66 = .ok (.if_icmp .ge 26, 3) := by decide +kernel
theorem dX7_order_69 : decode cX7_order 69 = .ok (.aload_n 0, 1) := by decide +kernel
theorem dX7_order_70 : decode cX7_order 70 = .ok (.getfield 35, 3) := by decide +kernel
theorem dX7_order_73 : decode cX7_order 73 = .ok (.iload_n 3, 1) := by decide +kernel
theorem dX7_order_74 : decode cX7_order 74 = .ok (.iconst 1, 1) := by decide +kernel
theorem dX7_order_75 : decode cX7_order 75 = .ok (.iadd, 1) := by decide +kernel
theorem dX7_order_76 : decode cX7_order 76 = .ok (.aload_n 0, 1) := by decide +kernel
theorem dX7_order_77 : decode cX7_order 77 = .ok (.getfield 56, 3) := by decide +kernel
theorem dX7_order_80 : decode cX7_order 80 = .ok (.iload_n 3, 1) := by decide +kernel
theorem dX7_order_81 : decode cX7_order 81 = .ok (.iaload, 1) := by decide +kernel
theorem dX7_order_82 : decode cX7_order 82 = .ok (.invokestatic 241, 3) := by decide +kernel
theorem dX7_order_85 : decode cX7_order 85 = .ok (.iastore, 1) := by decide +kernel
theorem dX7_order_86 : decode cX7_order 86 = .ok (.iinc 3 1, 3) := by decide +kernel
theorem dX7_order_89 : decode cX7_order 89 = .ok (.goto (-25), 3) := by decide +kernel
theorem dX7_order_92 : decode cX7_order 92 = .ok (.aload_n 0, 1) := by decide +kernel
theorem dX7_order_93 : decode cX7_order 93 = .ok (.iload_n 1, 1) := by decide +kernel
theorem dX7_order_94 : decode cX7_order 94 = .ok (.iconst 1, 1) := by decide +kernel
theorem dX7_order_95 : decode cX7_order 95 = .ok (.iadd, 1) := by decide +kernel
theorem dX7_order_96 : decode cX7_order 96 = .ok (.putfield 31, 3) := by decide +kernel
theorem dX7_order_99 : decode cX7_order 99 = .ok (.aload_n 0, 1) := by decide +kernel
theorem dX7_order_100 : decode cX7_order 100 = .ok (.getfield 31, 3) := by decide +kernel
theorem dX7_order_103 : decode cX7_order 103 = .ok (.ireturn, 1) := by decide +kernel
theorem dX7_ordered_0 : decode cX7_ordered 0 = .ok (.aload_n 0, 1) := by decide +kernel
theorem dX7_ordered_1 : decode cX7_ordered 1 = .ok (.iconst 0, 1) := by decide +kernel
theorem dX7_ordered_2 : decode cX7_ordered 2 = .ok (.putfield 75, 3) := by decide +kernel
theorem dX7_ordered_5 : decode cX7_ordered 5 = .ok (.iload_n 1, 1) := by decide +kernel
theorem dX7_ordered_6 : decode cX7_ordered 6 = .ok (.ifCond .ge 7, 3) := by decide +kernel
theorem dX7_ordered_9 : decode cX7_ordered 9 = .ok (.iconst (-1), 1) := by decide +kernel
theorem dX7_ordered_10 : decode cX7_ordered 10 = .ok (.goto 22, 3) := by decide +kernel
theorem dX7_ordered_13 : decode cX7_ordered 13 = .ok (.iload_n 1, 1) := by decide +kernel
theorem dX7_ordered_14 : decode cX7_ordered 14 = .ok (.aload_n 0, 1) := by decide +kernel
theorem dX7_ordered_15 : decode cX7_ordered 15 = .ok (.getfield 31, 3) := by decide +kernel
theorem dX7_ordered_18 : decode cX7_ordered 18 = .ok (.if_icmp .ge 12, 3) := by decide +kernel
theorem dX7_ordered_21 : decode cX7_ordered 21 = .ok (.aload_n 0, 1) := by decide +kernel
theorem dX7_ordered_22 : decode cX7_ordered 22 = .ok (.getfield 35, 3) := by decide +kernel
theorem dX7_ordered_25 : decode cX7_ordered 25 = .ok (.iload_n 1, 1) := by decide +kernel
theorem dX7_ordered_26 : decode cX7_ordered 26 = .ok (.iaload, 1) := by decide +kernel
theorem dX7_ordered_27 : decode cX7_ordered 27 = .ok (.goto 5, 3) := by decide +kernel
theorem dX7_ordered_30 : decode cX7_ordered 30 = .ok (.bipush (-5), 2) := by decide +kernel
theorem dX7_ordered_32 : decode cX7_ordered 32 = .ok (.ireturn, 1) := by decide +kernel
theorem dX7_writes_0 : decode cX7_writes 0 = .ok (.aload_n 0, 1) := by decide +kernel
theorem dX7_writes_1 : decode cX7_writes 1 = .ok (.getfield 59, 3) := by decide +kernel
theorem dX7_writes_4 : decode cX7_writes 4 = .ok (.aload_n 0, 1) := by decide +kernel
theorem dX7_writes_5 : decode cX7_writes 5 = .ok (.getfield 247, 3) := by decide +kernel
theorem dX7_writes_8 : decode cX7_writes 8 = .ok (.iload_n 1, 1) := by decide +kernel
theorem dX7_writes_9 : decode cX7_writes 9 = .ok (.iastore, 1) := by decide +kernel
theorem dX7_writes_10 : decode cX7_writes 10 = .ok (.aload_n 0, 1) := by decide +kernel
theorem dX7_writes_11 : decode cX7_writes 11 = .ok (.dup, 1) := by decide +kernel
theorem dX7_writes_12 : decode cX7_writes 12 = .ok (.getfield 247, 3) := by decide +kernel
theorem dX7_writes_15 : decode cX7_writes 15 = .ok (.iconst 1, 1) := by decide +kernel
theorem dX7_writes_16 : decode cX7_writes 16 = .ok (.iadd, 1) := by decide +kernel
theorem dX7_writes_17 : decode cX7_writes 17 = .ok (.putfield 247, 3) := by decide +kernel
theorem dX7_writes_20 : decode cX7_writes 20 = .ok (.return_, 1) := by decide +kernel
theorem dX7_writesNumber_0 : decode cX7_writesNumber 0 = .ok (.iload_n 1, 1) := by decide +kernel
theorem dX7_writesNumber_1 : decode cX7_writesNumber 1 = .ok (.bipush 9, 2) := by decide +kernel
theorem dX7_writesNumber_3 : decode cX7_writesNumber 3 = .ok (.if_icmp .le 14, 3) := by decide +kernel
theorem dX7_writesNumber_6 : decode cX7_writesNumber 6 = .ok (.aload_n 0, 1) := by decide +kernel
theorem dX7_writesNumber_7 : decode cX7_writesNumber 7 = .ok (.bipush 48, 2) := by decide +kernel
theorem dX7_writesNumber_9 : decode cX7_writesNumber 9 = .ok (.iload_n 1, 1) := by decide +kernel
theorem dX7_writesNumber_10 : decode cX7_writesNumber 10 = .ok (.bipush 10, 2) := by decide +kernel
theorem dX7_writesNumber_12 : decode cX7_writesNumber 12 = .ok (.idiv, 1) := by decide +kernel
theorem dX7_writesNumber_13 : decode cX7_writesNumber 13 = .ok (.iadd, 1) := by decide +kernel
theorem dX7_writesNumber_14 : decode cX7_writesNumber 14 = .ok (.invokevirtual 250, 3) := by decide +kernel
theorem dX7_writesNumber_17 : decode cX7_writesNumber 17 = .ok (.aload_n 0, 1) := by decide +kernel
theorem dX7_writesNumber_18 : decode cX7_writesNumber 18 = .ok (.bipush 48, 2) := by decide +kernel
theorem dX7_writesNumber_20 : decode cX7_writesNumber 20 = .ok (.iload_n 1, 1) := by decide +kernel
theorem dX7_writesNumber_21 : decode cX7_writesNumber 21 = .ok (.bipush 10, 2) := by decide +kernel
theorem dX7_writesNumber_23 : decode cX7_writesNumber 23 = .ok (.irem, 1) := by decide +kernel
theorem dX7_writesNumber_24 : decode cX7_writesNumber 24 = .ok (.iadd, 1) := by decide +kernel
theorem dX7_writesNumber_25 : decode cX7_writesNumber 25 = .ok (.invokevirtual 250, 3) := by decide +kernel
theorem dX7_writesNumber_28 : decode cX7_writesNumber 28 = .ok (.return_, 1) := by decide +kernel
theorem dX7_writesRound_0 : decode cX7_writesRound 0 = .ok (.aload_n 0, 1) := by decide +kernel
theorem dX7_writesRound_1 : decode cX7_writesRound 1 = .ok (.iload_n 1, 1) := by decide +kernel
theorem dX7_writesRound_2 : decode cX7_writesRound 2 = .ok (.iload_n 2, 1) := by decide +kernel
theorem dX7_writesRound_3 : decode cX7_writesRound 3 = .ok (.invokevirtual 95, 3) := by decide +kernel
theorem dX7_writesRound_6 : decode cX7_writesRound 6 = .ok (.istore_n 3, 1) := by decide +kernel
theorem dX7_writesRound_7 : decode cX7_writesRound 7 = .ok (.aload_n 0, 1) := by decide +kernel
theorem dX7_writesRound_8 : decode cX7_writesRound 8 = .ok (.bipush 32, 2) := by decide +kernel
theorem dX7_writesRound_10 : decode cX7_writesRound 10 = .ok (.invokevirtual 250, 3) := by decide +kernel
theorem dX7_writesRound_13 : decode cX7_writesRound 13 = .ok (.iload_n 3, 1) := by decide +kernel
theorem dX7_writesRound_14 : decode cX7_writesRound 14 = .ok (.ifCond .ge 25, 3) := by decide +kernel
theorem dX7_writesRound_17 : decode cX7_writesRound 17 = .ok (.aload_n 0, 1) := by decide +kernel
theorem dX7_writesRound_18 : decode cX7_writesRound 18 = .ok (.aload_n 0, 1) := by decide +kernel
theorem dX7_writesRound_19 : decode cX7_writesRound 19 = .ok (.getfield 19, 3) := by decide +kernel
theorem dX7_writesRound_22 : decode cX7_writesRound 22 = .ok (.iload_n 2, 1) := by decide +kernel
theorem dX7_writesRound_23 : decode cX7_writesRound 23 = .ok (.iaload, 1) := by decide +kernel
theorem dX7_writesRound_24 : decode cX7_writesRound 24 = .ok (.iload_n 1, 1) := by decide +kernel
theorem dX7_writesRound_25 : decode cX7_writesRound 25 = .ok (.if_icmp .ne 8, 3) := by decide +kernel
theorem dX7_writesRound_28 : decode cX7_writesRound 28 = .ok (.bipush 66, 2) := by decide +kernel
theorem dX7_writesRound_30 : decode cX7_writesRound 30 = .ok (.goto 5, 3) := by decide +kernel
theorem dX7_writesRound_33 : decode cX7_writesRound 33 = .ok (.bipush 122, 2) := by decide +kernel
theorem dX7_writesRound_35 : decode cX7_writesRound 35 = .ok (.invokevirtual 250, 3) := by decide +kernel
theorem dX7_writesRound_38 : decode cX7_writesRound 38 = .ok (.return_, 1) := by decide +kernel
theorem dX7_writesRound_39 : decode cX7_writesRound 39 = .ok (.aload_n 0, 1) := by decide +kernel
theorem dX7_writesRound_40 : decode cX7_writesRound 40 = .ok (.iload_n 3, 1) := by decide +kernel
theorem dX7_writesRound_41 : decode cX7_writesRound 41 = .ok (.iload_n 1, 1) := by decide +kernel
theorem dX7_writesRound_42 : decode cX7_writesRound 42 = .ok (.invokevirtual 105, 3) := by decide +kernel
theorem dX7_writesRound_45 : decode cX7_writesRound 45 = .ok (.istore 4, 2) := by decide +kernel
theorem dX7_writesRound_47 : decode cX7_writesRound 47 = .ok (.aload_n 0, 1) := by decide +kernel
theorem dX7_writesRound_48 : decode cX7_writesRound 48 = .ok (.aload_n 0, 1) := by decide +kernel
theorem dX7_writesRound_49 : decode cX7_writesRound 49 = .ok (.iload_n 3, 1) := by decide +kernel
theorem dX7_writesRound_50 : decode cX7_writesRound 50 = .ok (.iload_n 1, 1) := by decide +kernel
theorem dX7_writesRound_51 : decode cX7_writesRound 51 = .ok (.invokevirtual 117, 3) := by decide +kernel
theorem dX7_writesRound_54 : decode cX7_writesRound 54 = .ok (.invokevirtual 254, 3) := by decide +kernel
theorem dX7_writesRound_57 : decode cX7_writesRound 57 = .ok (.aload_n 0, 1) := by decide +kernel
theorem dX7_writesRound_58 : decode cX7_writesRound 58 = .ok (.aload_n 0, 1) := by decide +kernel
theorem dX7_writesRound_59 : decode cX7_writesRound 59 = .ok (.getfield 28, 3) := by decide +kernel
theorem dX7_writesRound_62 : decode cX7_writesRound 62 = .ok (.iload_n 3, 1) := by decide +kernel
theorem dX7_writesRound_63 : decode cX7_writesRound 63 = .ok (.iaload, 1) := by decide +kernel
theorem dX7_writesRound_64 : decode cX7_writesRound 64 = .ok (.iconst 3, 1) := by decide +kernel
theorem dX7_writesRound_65 : decode cX7_writesRound 65 = .ok (.if_icmp .le 19, 3) := by decide +kernel
theorem dX7_writesRound_68 : decode cX7_writesRound 68 = .ok (.iload 4, 2) := by decide +kernel
theorem dX7_writesRound_70 : decode cX7_writesRound 70 = .ok (.iconst 2, 1) := by decide +kernel
theorem dX7_writesRound_71 : decode cX7_writesRound 71 = .ok (.if_icmp .ne 8, 3) := by decide +kernel
theorem dX7_writesRound_74 : decode cX7_writesRound 74 = .ok (.bipush 43, 2) := by decide +kernel
theorem dX7_writesRound_76 : decode cX7_writesRound 76 = .ok (.goto 32, 3) := by decide +kernel
theorem dX7_writesRound_79 : decode cX7_writesRound 79 = .ok (.bipush 45, 2) := by decide +kernel
theorem dX7_writesRound_81 : decode cX7_writesRound 81 = .ok (.goto 27, 3) := by decide +kernel
theorem dX7_writesRound_84 : decode cX7_writesRound 84 = .ok (.iload 4, 2) := by decide +kernel
theorem dX7_writesRound_86 : decode cX7_writesRound 86 = .ok (.iconst 2, 1) := by decide +kernel
theorem dX7_writesRound_87 : decode cX7_writesRound 87 = .ok (.if_icmp .ne 8, 3) := by decide +kernel
theorem dX7_writesRound_90 : decode cX7_writesRound 90 = .ok (.bipush 49, 2) := by decide +kernel
theorem dX7_writesRound_92 : decode cX7_writesRound 92 = .ok (.goto 16, 3) := by decide +kernel
theorem dX7_writesRound_95 : decode cX7_writesRound 95 = .ok (.iload 4, 2) := by decide +kernel
theorem dX7_writesRound_97 : decode cX7_writesRound 97 = .ok (.iconst 1, 1) := by decide +kernel
theorem dX7_writesRound_98 : decode cX7_writesRound 98 = .ok (.if_icmp .ne 8, 3) := by decide +kernel
theorem dX7_writesRound_101 : decode cX7_writesRound 101 = .ok (.bipush 61, 2) := by decide +kernel
theorem dX7_writesRound_103 : decode cX7_writesRound 103 = .ok (.goto 5, 3) := by decide +kernel
theorem dX7_writesRound_106 : decode cX7_writesRound 106 = .ok (.bipush 48, 2) := by decide +kernel
theorem dX7_writesRound_108 : decode cX7_writesRound 108 = .ok (.invokevirtual 250, 3) := by decide +kernel
theorem dX7_writesRound_111 : decode cX7_writesRound 111 = .ok (.return_, 1) := by decide +kernel
theorem dX7_line_0 : decode cX7_line 0 = .ok (.aload_n 0, 1) := by decide +kernel
theorem dX7_line_1 : decode cX7_line 1 = .ok (.iconst 0, 1) := by decide +kernel
theorem dX7_line_2 : decode cX7_line 2 = .ok (.putfield 75, 3) := by decide +kernel
theorem dX7_line_5 : decode cX7_line 5 = .ok (.aload_n 0, 1) := by decide +kernel
theorem dX7_line_6 : decode cX7_line 6 = .ok (.iload_n 1, 1) := by decide +kernel
theorem dX7_line_7 : decode cX7_line 7 = .ok (.invokevirtual 85, 3) := by decide +kernel
theorem dX7_line_10 : decode cX7_line 10 = .ok (.ifCond .ne 5, 3) := by decide +kernel
theorem dX7_line_13 : decode cX7_line 13 = .ok (.iconst (-1), 1) := by decide +kernel
theorem dX7_line_14 : decode cX7_line 14 = .ok (.ireturn, 1) := by decide +kernel
theorem dX7_line_15 : decode cX7_line 15 = .ok (.aload_n 0, 1) := by decide +kernel
theorem dX7_line_16 : decode cX7_line 16 = .ok (.iconst 0, 1) := by decide +kernel
theorem dX7_line_17 : decode cX7_line 17 = .ok (.putfield 247, 3) := by decide +kernel
theorem dX7_line_20 : decode cX7_line 20 = .ok (.aload_n 0, 1) := by decide +kernel
theorem dX7_line_21 : decode cX7_line 21 = .ok (.iload_n 1, 1) := by decide +kernel
theorem dX7_line_22 : decode cX7_line 22 = .ok (.invokevirtual 254, 3) := by decide +kernel
theorem dX7_line_25 : decode cX7_line 25 = .ok (.aload_n 0, 1) := by decide +kernel
theorem dX7_line_26 : decode cX7_line 26 = .ok (.bipush 32, 2) := by decide +kernel
theorem dX7_line_28 : decode cX7_line 28 = .ok (.invokevirtual 250, 3) := by decide +kernel
theorem dX7_line_31 : decode cX7_line 31 = .ok (.aload_n 0, 1) := by decide +kernel
theorem dX7_line_32 : decode cX7_line 32 = .ok (.aload_n 0, 1) := by decide +kernel
theorem dX7_line_33 : decode cX7_line 33 = .ok (.iload_n 1, 1) := by decide +kernel
theorem dX7_line_34 : decode cX7_line 34 = .ok (.invokevirtual 128, 3) := by decide +kernel
theorem dX7_line_37 : decode cX7_line 37 = .ok (.iconst 2, 1) := by decide +kernel
theorem dX7_line_38 : decode cX7_line 38 = .ok (.idiv, 1) := by decide +kernel
theorem dX7_line_39 : decode cX7_line 39 = .ok (.invokevirtual 254, 3) := by decide +kernel
theorem dX7_line_42 : decode cX7_line 42 = .ok (.aload_n 0, 1) := by decide +kernel
theorem dX7_line_43 : decode cX7_line 43 = .ok (.iload_n 1, 1) := by decide +kernel
theorem dX7_line_44 : decode cX7_line 44 = .ok (.invokevirtual 128, 3) := by decide +kernel
theorem dX7_line_47 : decode cX7_line 47 = .ok (.iconst 2, 1) := by decide +kernel
theorem dX7_line_48 : decode cX7_line 48 = .ok (.irem, 1) := by decide +kernel
theorem dX7_line_49 : decode cX7_line 49 = .ok (.iconst 1, 1) := by decide +kernel
theorem dX7_line_50 : decode cX7_line 50 = .ok (.if_icmp .ne 15, 3) := by decide +kernel
theorem dX7_line_53 : decode cX7_line 53 = .ok (.aload_n 0, 1) := by decide +kernel
theorem dX7_line_54 : decode cX7_line 54 = .ok (.bipush 46, 2) := by decide +kernel
theorem dX7_line_56 : decode cX7_line 56 = .ok (.invokevirtual 250, 3) := by decide +kernel
theorem dX7_line_59 : decode cX7_line 59 = .ok (.aload_n 0, 1) := by decide +kernel
theorem dX7_line_60 : decode cX7_line 60 = .ok (.bipush 53, 2) := by decide +kernel
theorem dX7_line_62 : decode cX7_line 62 = .ok (.invokevirtual 250, 3) := by decide +kernel
theorem dX7_line_65 : decode cX7_line 65 = .ok (.iconst 0, 1) := by decide +kernel
theorem dX7_line_66 : decode cX7_line 66 = .ok (.istore_n 2, 1) := by decide +kernel
theorem dX7_line_67 : decode cX7_line 67 = .ok (.iload_n 2, 1) := by decide +kernel
theorem dX7_line_68 : decode cX7_line 68 = .ok (.aload_n 0, 1) := by decide +kernel
theorem dX7_line_69 : decode cX7_line 69 = .ok (.invokevirtual 99, 3) := by decide +kernel
theorem dX7_line_72 : decode cX7_line 72 = .ok (.if_icmp .ge 15, 3) := by decide +kernel
theorem dX7_line_75 : decode cX7_line 75 = .ok (.aload_n 0, 1) := by decide +kernel
theorem dX7_line_76 : decode cX7_line 76 = .ok (.iload_n 1, 1) := by decide +kernel
theorem dX7_line_77 : decode cX7_line 77 = .ok (.iload_n 2, 1) := by decide +kernel
theorem dX7_line_78 : decode cX7_line 78 = .ok (.invokevirtual 257, 3) := by decide +kernel
theorem dX7_line_81 : decode cX7_line 81 = .ok (.iinc 2 1, 3) := by decide +kernel
theorem dX7_line_84 : decode cX7_line 84 = .ok (.goto (-17), 3) := by decide +kernel
theorem dX7_line_87 : decode cX7_line 87 = .ok (.aload_n 0, 1) := by decide +kernel
theorem dX7_line_88 : decode cX7_line 88 = .ok (.getfield 247, 3) := by decide +kernel
theorem dX7_line_91 : decode cX7_line 91 = .ok (.ireturn, 1) := by decide +kernel
theorem dX7_paper_0 : decode cX7_paper 0 = .ok (.aload_n 0, 1) := by decide +kernel
theorem dX7_paper_1 : decode cX7_paper 1 = .ok (.iconst 0, 1) := by decide +kernel
theorem dX7_paper_2 : decode cX7_paper 2 = .ok (.putfield 75, 3) := by decide +kernel
theorem dX7_paper_5 : decode cX7_paper 5 = .ok (.iload_n 1, 1) := by decide +kernel
theorem dX7_paper_6 : decode cX7_paper 6 = .ok (.i2l, 1) := by decide +kernel
theorem dX7_paper_7 : decode cX7_paper 7 = .ok (.lconst 0, 1) := by decide +kernel
theorem dX7_paper_8 : decode cX7_paper 8 = .ok (.aload_n 0, 1) := by decide +kernel
theorem dX7_paper_9 : decode cX7_paper 9 = .ok (.getfield 247, 3) := by decide +kernel
theorem dX7_paper_12 : decode cX7_paper 12 = .ok (.iconst 1, 1) := by decide +kernel
theorem dX7_paper_13 : decode cX7_paper 13 = .ok (.isub, 1) := by decide +kernel
theorem dX7_paper_14 : decode cX7_paper 14 = .ok (.i2l, 1) := by decide +kernel
theorem dX7_paper_15 : decode cX7_paper 15 = .ok (.invokestatic 81, 3) := by decide +kernel
theorem dX7_paper_18 : decode cX7_paper 18 = .ok (.ifCond .eq 12, 3) := by decide +kernel
theorem dX7_paper_21 : decode cX7_paper 21 = .ok (.aload_n 0, 1) := by decide +kernel
theorem dX7_paper_22 : decode cX7_paper 22 = .ok (.getfield 59, 3) := by decide +kernel
theorem dX7_paper_25 : decode cX7_paper 25 = .ok (.iload_n 1, 1) := by decide +kernel
theorem dX7_paper_26 : decode cX7_paper 26 = .ok (.iaload, 1) := by decide +kernel
theorem dX7_paper_27 : decode cX7_paper 27 = .ok (.goto 4, 3) := by decide +kernel
theorem dX7_paper_30 : decode cX7_paper 30 = .ok (.iconst (-1), 1) := by decide +kernel
theorem dX7_paper_31 : decode cX7_paper 31 = .ok (.ireturn, 1) := by decide +kernel
theorem dX7_metTwos_0 : decode cX7_metTwos 0 = .ok (.iconst 0, 1) := by decide +kernel
theorem dX7_metTwos_1 : decode cX7_metTwos 1 = .ok (.istore_n 1, 1) := by decide +kernel
theorem dX7_metTwos_2 : decode cX7_metTwos 2 = .ok (.iconst 0, 1) := by decide +kernel
theorem dX7_metTwos_3 : decode cX7_metTwos 3 = .ok (.istore_n 2, 1) := by decide +kernel
theorem dX7_metTwos_4 : decode cX7_metTwos 4 = .ok (.iload_n 2, 1) := by decide +kernel
theorem dX7_metTwos_5 : decode cX7_metTwos 5 = .ok (.aload_n 0, 1) := by decide +kernel
theorem dX7_metTwos_6 : decode cX7_metTwos 6 = .ok (.getfield 78, 3) := by decide +kernel
theorem dX7_metTwos_9 : decode cX7_metTwos 9 = .ok (.if_icmp .ge 39, 3) := by decide +kernel
theorem dX7_metTwos_12 : decode cX7_metTwos 12 = .ok (.iconst 0, 1) := by decide +kernel
theorem dX7_metTwos_13 : decode cX7_metTwos 13 = .ok (.istore_n 3, 1) := by decide +kernel
theorem dX7_metTwos_14 : decode cX7_metTwos 14 = .ok (.iload_n 3, 1) := by decide +kernel
theorem dX7_metTwos_15 : decode cX7_metTwos 15 = .ok (.iload_n 2, 1) := by decide +kernel
theorem dX7_metTwos_16 : decode cX7_metTwos 16 = .ok (.if_icmp .ge 26, 3) := by decide +kernel
theorem dX7_metTwos_19 : decode cX7_metTwos 19 = .ok (.iload_n 1, 1) := by decide +kernel
theorem dX7_metTwos_20 : decode cX7_metTwos 20 = .ok (.aload_n 0, 1) := by decide +kernel
theorem dX7_metTwos_21 : decode cX7_metTwos 21 = .ok (.iload_n 2, 1) := by decide +kernel
theorem dX7_metTwos_22 : decode cX7_metTwos 22 = .ok (.iload_n 3, 1) := by decide +kernel
theorem dX7_metTwos_23 : decode cX7_metTwos 23 = .ok (.invokevirtual 187, 3) := by decide +kernel
theorem dX7_metTwos_26 : decode cX7_metTwos 26 = .ok (.ifCond .lt 7, 3) := by decide +kernel
theorem dX7_metTwos_29 : decode cX7_metTwos 29 = .ok (.iconst 1, 1) := by decide +kernel
theorem dX7_metTwos_30 : decode cX7_metTwos 30 = .ok (.goto 4, 3) := by decide +kernel
theorem dX7_metTwos_33 : decode cX7_metTwos 33 = .ok (.iconst 0, 1) := by decide +kernel
theorem dX7_metTwos_34 : decode cX7_metTwos 34 = .ok (.iadd, 1) := by decide +kernel
theorem dX7_metTwos_35 : decode cX7_metTwos 35 = .ok (.istore_n 1, 1) := by decide +kernel
theorem dX7_metTwos_36 : decode cX7_metTwos 36 = .ok (.iinc 3 1, 3) := by decide +kernel
theorem dX7_metTwos_39 : decode cX7_metTwos 39 = .ok (.goto (-25), 3) := by decide +kernel
theorem dX7_metTwos_42 : decode cX7_metTwos 42 = .ok (.iinc 2 1, 3) := by decide +kernel
theorem dX7_metTwos_45 : decode cX7_metTwos 45 = .ok (.goto (-41), 3) := by decide +kernel
theorem dX7_metTwos_48 : decode cX7_metTwos 48 = .ok (.iload_n 1, 1) := by decide +kernel
theorem dX7_metTwos_49 : decode cX7_metTwos 49 = .ok (.ireturn, 1) := by decide +kernel
theorem dX7_allPoints_0 : decode cX7_allPoints 0 = .ok (.iconst 0, 1) := by decide +kernel
theorem dX7_allPoints_1 : decode cX7_allPoints 1 = .ok (.istore_n 1, 1) := by decide +kernel
theorem dX7_allPoints_2 : decode cX7_allPoints 2 = .ok (.iconst 0, 1) := by decide +kernel
theorem dX7_allPoints_3 : decode cX7_allPoints 3 = .ok (.istore_n 2, 1) := by decide +kernel
theorem dX7_allPoints_4 : decode cX7_allPoints 4 = .ok (.iload_n 2, 1) := by decide +kernel
theorem dX7_allPoints_5 : decode cX7_allPoints 5 = .ok (.aload_n 0, 1) := by decide +kernel
theorem dX7_allPoints_6 : decode cX7_allPoints 6 = .ok (.getfield 78, 3) := by decide +kernel
theorem dX7_allPoints_9 : decode cX7_allPoints 9 = .ok (.if_icmp .ge 17, 3) := by decide +kernel
theorem dX7_allPoints_12 : decode cX7_allPoints 12 = .ok (.iload_n 1, 1) := by decide +kernel
theorem dX7_allPoints_13 : decode cX7_allPoints 13 = .ok (.aload_n 0, 1) := by decide +kernel
theorem dX7_allPoints_14 : decode cX7_allPoints 14 = .ok (.iload_n 2, 1) := by decide +kernel
theorem dX7_allPoints_15 : decode cX7_allPoints 15 = .ok (.invokevirtual 128, 3) := by decide +kernel
theorem dX7_allPoints_18 : decode cX7_allPoints 18 = .ok (.iadd, 1) := by decide +kernel
theorem dX7_allPoints_19 : decode cX7_allPoints 19 = .ok (.istore_n 1, 1) := by decide +kernel
theorem dX7_allPoints_20 : decode cX7_allPoints 20 = .ok (.iinc 2 1, 3) := by decide +kernel
theorem dX7_allPoints_23 : decode cX7_allPoints 23 = .ok (.goto (-19), 3) := by decide +kernel
theorem dX7_allPoints_26 : decode cX7_allPoints 26 = .ok (.iload_n 1, 1) := by decide +kernel
theorem dX7_allPoints_27 : decode cX7_allPoints 27 = .ok (.ireturn, 1) := by decide +kernel
theorem dX7_told_0 : decode cX7_told 0 = .ok (.aload_n 0, 1) := by decide +kernel
theorem dX7_told_1 : decode cX7_told 1 = .ok (.iconst 0, 1) := by decide +kernel
theorem dX7_told_2 : decode cX7_told 2 = .ok (.putfield 75, 3) := by decide +kernel
theorem dX7_told_5 : decode cX7_told 5 = .ok (.iload_n 1, 1) := by decide +kernel
theorem dX7_told_6 : decode cX7_told 6 = .ok (.tableswitch 115 0 8 #[50, 55, 60, 65, 70, 95, 100, 105, 110], 50) := by decide +kernel
theorem dX7_told_56 : decode cX7_told 56 = .ok (.aload_n 0, 1) := by decide +kernel
theorem dX7_told_57 : decode cX7_told 57 = .ok (.getfield 78, 3) := by decide +kernel
theorem dX7_told_60 : decode cX7_told 60 = .ok (.ireturn, 1) := by decide +kernel
theorem dX7_told_61 : decode cX7_told 61 = .ok (.aload_n 0, 1) := by decide +kernel
theorem dX7_told_62 : decode cX7_told 62 = .ok (.invokevirtual 175, 3) := by decide +kernel
theorem dX7_told_65 : decode cX7_told 65 = .ok (.ireturn, 1) := by decide +kernel
theorem dX7_told_66 : decode cX7_told 66 = .ok (.aload_n 0, 1) := by decide +kernel
theorem dX7_told_67 : decode cX7_told 67 = .ok (.getfield 89, 3) := by decide +kernel
theorem dX7_told_70 : decode cX7_told 70 = .ok (.ireturn, 1) := by decide +kernel
theorem dX7_told_71 : decode cX7_told 71 = .ok (.aload_n 0, 1) := by decide +kernel
theorem dX7_told_72 : decode cX7_told 72 = .ok (.invokevirtual 99, 3) := by decide +kernel
theorem dX7_told_75 : decode cX7_told 75 = .ok (.ireturn, 1) := by decide +kernel
theorem dX7_told_76 : decode cX7_told 76 = .ok (.aload_n 0, 1) := by decide +kernel
theorem dX7_told_77 : decode cX7_told 77 = .ok (.getfield 92, 3) := by decide +kernel
theorem dX7_told_80 : decode cX7_told 80 = .ok (.iconst 1, 1) := by decide +kernel
theorem dX7_told_81 : decode cX7_told 81 = .ok (.if_icmp .ne 17, 3) := by decide +kernel
theorem dX7_told_84 : decode cX7_told 84 = .ok (.aload_n 0, 1) := by decide +kernel
theorem dX7_told_85 : decode cX7_told 85 = .ok (.getfield 16, 3) := by decide +kernel
theorem dX7_told_88 : decode cX7_told 88 = .ok (.aload_n 0, 1) := by decide +kernel
theorem dX7_told_89 : decode cX7_told 89 = .ok (.getfield 89, 3) := by decide +kernel
theorem dX7_told_92 : decode cX7_told 92 = .ok (.iconst 1, 1) := by decide +kernel
theorem dX7_told_93 : decode cX7_told 93 = .ok (.isub, 1) := by decide +kernel
theorem dX7_told_94 : decode cX7_told 94 = .ok (.iaload, 1) := by decide +kernel
theorem dX7_told_95 : decode cX7_told 95 = .ok (.goto 5, 3) := by decide +kernel
theorem dX7_told_98 : decode cX7_told 98 = .ok (.bipush (-5), 2) := by decide +kernel
theorem dX7_told_100 : decode cX7_told 100 = .ok (.ireturn, 1) := by decide +kernel
theorem dX7_told_101 : decode cX7_told 101 = .ok (.aload_n 0, 1) := by decide +kernel
theorem dX7_told_102 : decode cX7_told 102 = .ok (.getfield 235, 3) := by decide +kernel
theorem dX7_told_105 : decode cX7_told 105 = .ok (.ireturn, 1) := by decide +kernel
theorem dX7_told_106 : decode cX7_told 106 = .ok (.aload_n 0, 1) := by decide +kernel
theorem dX7_told_107 : decode cX7_told 107 = .ok (.getfield 247, 3) := by decide +kernel
theorem dX7_told_110 : decode cX7_told 110 = .ok (.ireturn, 1) := by decide +kernel
theorem dX7_told_111 : decode cX7_told 111 = .ok (.aload_n 0, 1) := by decide +kernel
theorem dX7_told_112 : decode cX7_told 112 = .ok (.invokevirtual 261, 3) := by decide +kernel
theorem dX7_told_115 : decode cX7_told 115 = .ok (.ireturn, 1) := by decide +kernel
theorem dX7_told_116 : decode cX7_told 116 = .ok (.aload_n 0, 1) := by decide +kernel
theorem dX7_told_117 : decode cX7_told 117 = .ok (.invokevirtual 264, 3) := by decide +kernel
theorem dX7_told_120 : decode cX7_told 120 = .ok (.ireturn, 1) := by decide +kernel
theorem dX7_told_121 : decode cX7_told 121 = .ok (.iconst (-1), 1) := by decide +kernel
theorem dX7_told_122 : decode cX7_told 122 = .ok (.ireturn, 1) := by decide +kernel
theorem dX7_isList_0 : decode cX7_isList 0 = .ok (.iload_n 0, 1) := by decide +kernel
theorem dX7_isList_1 : decode cX7_isList 1 = .ok (.i2l, 1) := by decide +kernel
theorem dX7_isList_2 : decode cX7_isList 2 = .ok (.lconst 0, 1) := by decide +kernel
theorem dX7_isList_3 : decode cX7_isList 3 = .ok (.ldc2_w 103, 3) := by decide +kernel
theorem dX7_isList_6 : decode cX7_isList 6 = .ok (.invokestatic 81, 3) := by decide +kernel
theorem dX7_isList_9 : decode cX7_isList 9 = .ok (.ireturn, 1) := by decide +kernel
theorem dX7_list_0 : decode cX7_list 0 = .ok (.aload_n 0, 1) := by decide +kernel
theorem dX7_list_1 : decode cX7_list 1 = .ok (.iconst 0, 1) := by decide +kernel
theorem dX7_list_2 : decode cX7_list 2 = .ok (.putfield 75, 3) := by decide +kernel
theorem dX7_list_5 : decode cX7_list 5 = .ok (.iload_n 1, 1) := by decide +kernel
theorem dX7_list_6 : decode cX7_list 6 = .ok (.invokestatic 267, 3) := by decide +kernel
theorem dX7_list_9 : decode cX7_list 9 = .ok (.ifCond .ne 5, 3) := by decide +kernel
theorem dX7_list_12 : decode cX7_list 12 = .ok (.iconst (-1), 1) := by decide +kernel
theorem dX7_list_13 : decode cX7_list 13 = .ok (.ireturn, 1) := by decide +kernel
theorem dX7_list_14 : decode cX7_list 14 = .ok (.iload_n 2, 1) := by decide +kernel
theorem dX7_list_15 : decode cX7_list 15 = .ok (.bipush 20, 2) := by decide +kernel
theorem dX7_list_17 : decode cX7_list 17 = .ok (.if_icmp .gt 7, 3) := by decide +kernel
theorem dX7_list_20 : decode cX7_list 20 = .ok (.iload_n 2, 1) := by decide +kernel
theorem dX7_list_21 : decode cX7_list 21 = .ok (.ifCond .ge 15, 3) := by decide +kernel
theorem dX7_list_24 : decode cX7_list 24 = .ok (.iload_n 2, 1) := by decide +kernel
theorem dX7_list_25 : decode cX7_list 25 = .ok (.ifCond .ge 8, 3) := by decide +kernel
theorem dX7_list_28 : decode cX7_list 28 = .ok (.bipush (-14), 2) := by decide +kernel
theorem dX7_list_30 : decode cX7_list 30 = .ok (.goto 5, 3) := by decide +kernel
theorem dX7_list_33 : decode cX7_list 33 = .ok (.bipush (-2), 2) := by decide +kernel
theorem dX7_list_35 : decode cX7_list 35 = .ok (.ireturn, 1) := by decide +kernel
theorem dX7_list_36 : decode cX7_list 36 = .ok (.aload_n 0, 1) := by decide +kernel
theorem dX7_list_37 : decode cX7_list 37 = .ok (.getfield 62, 3) := by decide +kernel
theorem dX7_list_40 : decode cX7_list 40 = .ok (.iload_n 1, 1) := by decide +kernel
theorem dX7_list_41 : decode cX7_list 41 = .ok (.iconst 1, 1) := by decide +kernel
theorem dX7_list_42 : decode cX7_list 42 = .ok (.bastore, 1) := by decide +kernel
theorem dX7_list_43 : decode cX7_list 43 = .ok (.aload_n 0, 1) := by decide +kernel
theorem dX7_list_44 : decode cX7_list 44 = .ok (.getfield 66, 3) := by decide +kernel
theorem dX7_list_47 : decode cX7_list 47 = .ok (.iload_n 1, 1) := by decide +kernel
theorem dX7_list_48 : decode cX7_list 48 = .ok (.iload_n 2, 1) := by decide +kernel
theorem dX7_list_49 : decode cX7_list 49 = .ok (.iastore, 1) := by decide +kernel
theorem dX7_list_50 : decode cX7_list 50 = .ok (.iconst 0, 1) := by decide +kernel
theorem dX7_list_51 : decode cX7_list 51 = .ok (.istore_n 3, 1) := by decide +kernel
theorem dX7_list_52 : decode cX7_list 52 = .ok (.iload_n 3, 1) := by decide +kernel
theorem dX7_list_53 : decode cX7_list 53 = .ok (.bipush 20, 2) := by decide +kernel
theorem dX7_list_55 : decode cX7_list 55 = .ok (.if_icmp .ge 21, 3) := by decide +kernel
theorem dX7_list_58 : decode cX7_list 58 = .ok (.aload_n 0, 1) := by decide +kernel
theorem dX7_list_59 : decode cX7_list 59 = .ok (.getfield 69, 3) := by decide +kernel
theorem dX7_list_62 : decode cX7_list 62 = .ok (.bipush 20, 2) := by decide +kernel
theorem dX7_list_64 : decode cX7_list 64 = .ok (.iload_n 1, 1) := by decide +kernel
theorem dX7_list_65 : decode cX7_list 65 = .ok (.imul, 1) := by decide +kernel
theorem dX7_list_66 : decode cX7_list 66 = .ok (.iload_n 3, 1) := by decide +kernel
theorem dX7_list_67 : decode cX7_list 67 = .ok (.iadd, 1) := by decide +kernel
theorem dX7_list_68 : decode cX7_list 68 = .ok (.iconst 0, 1) := by decide +kernel
theorem dX7_list_69 : decode cX7_list 69 = .ok (.iastore, 1) := by decide +kernel
theorem dX7_list_70 : decode cX7_list 70 = .ok (.iinc 3 1, 3) := by decide +kernel
theorem dX7_list_73 : decode cX7_list 73 = .ok (.goto (-21), 3) := by decide +kernel
theorem dX7_list_76 : decode cX7_list 76 = .ok (.iconst 1, 1) := by decide +kernel
theorem dX7_list_77 : decode cX7_list 77 = .ok (.ireturn, 1) := by decide +kernel
theorem dX7_set_0 : decode cX7_set 0 = .ok (.aload_n 0, 1) := by decide +kernel
theorem dX7_set_1 : decode cX7_set 1 = .ok (.iconst 0, 1) := by decide +kernel
theorem dX7_set_2 : decode cX7_set 2 = .ok (.putfield 75, 3) := by decide +kernel
theorem dX7_set_5 : decode cX7_set 5 = .ok (.iload_n 1, 1) := by decide +kernel
theorem dX7_set_6 : decode cX7_set 6 = .ok (.invokestatic 267, 3) := by decide +kernel
theorem dX7_set_9 : decode cX7_set 9 = .ok (.ifCond .eq 12, 3) := by decide +kernel
theorem dX7_set_12 : decode cX7_set 12 = .ok (.aload_n 0, 1) := by decide +kernel
theorem dX7_set_13 : decode cX7_set 13 = .ok (.getfield 62, 3) := by decide +kernel
theorem dX7_set_16 : decode cX7_set 16 = .ok (.iload_n 1, 1) := by decide +kernel
theorem dX7_set_17 : decode cX7_set 17 = .ok (.baload, 1) := by decide +kernel
theorem dX7_set_18 : decode cX7_set 18 = .ok (.ifCond .ne 17, 3) := by decide +kernel
theorem dX7_set_21 : decode cX7_set 21 = .ok (.iload_n 1, 1) := by decide +kernel
theorem dX7_set_22 : decode cX7_set 22 = .ok (.invokestatic 267, 3) := by decide +kernel
theorem dX7_set_25 : decode cX7_set 25 = .ok (.ifCond .eq 8, 3) := by decide +kernel
theorem dX7_set_28 : decode cX7_set 28 = .ok (.bipush (-11), 2) := by decide +kernel
theorem dX7_set_30 : decode cX7_set 30 = .ok (.goto 4, 3) := by decide +kernel
theorem dX7_set_33 : decode cX7_set 33 = .ok (.iconst (-1), 1) := by decide +kernel
theorem dX7_set_34 : decode cX7_set 34 = .ok (.ireturn, 1) := by decide +kernel
theorem dX7_set_35 : decode cX7_set 35 = .ok (.iload_n 2, 1) := by decide +kernel
theorem dX7_set_36 : decode cX7_set 36 = .ok (.i2l, 1) := by decide +kernel
theorem dX7_set_37 : decode cX7_set 37 = .ok (.lconst 0, 1) := by decide +kernel
theorem dX7_set_38 : decode cX7_set 38 = .ok (.aload_n 0, 1) := by decide +kernel
theorem dX7_set_39 : decode cX7_set 39 = .ok (.getfield 66, 3) := by decide +kernel
theorem dX7_set_42 : decode cX7_set 42 = .ok (.iload_n 1, 1) := by decide +kernel
theorem dX7_set_43 : decode cX7_set 43 = .ok (.iaload, 1) := by decide +kernel
theorem dX7_set_44 : decode cX7_set 44 = .ok (.iconst 1, 1) := by decide +kernel
theorem dX7_set_45 : decode cX7_set 45 = .ok (.isub, 1) := by decide +kernel
theorem dX7_set_46 : decode cX7_set 46 = .ok (.i2l, 1) := by decide +kernel
theorem dX7_set_47 : decode cX7_set 47 = .ok (.invokestatic 81, 3) := by decide +kernel
theorem dX7_set_50 : decode cX7_set 50 = .ok (.ifCond .ne 6, 3) := by decide +kernel
theorem dX7_set_53 : decode cX7_set 53 = .ok (.bipush (-13), 2) := by decide +kernel
theorem dX7_set_55 : decode cX7_set 55 = .ok (.ireturn, 1) := by decide +kernel
theorem dX7_set_56 : decode cX7_set 56 = .ok (.aload_n 0, 1) := by decide +kernel
theorem dX7_set_57 : decode cX7_set 57 = .ok (.getfield 69, 3) := by decide +kernel
theorem dX7_set_60 : decode cX7_set 60 = .ok (.bipush 20, 2) := by decide +kernel
theorem dX7_set_62 : decode cX7_set 62 = .ok (.iload_n 1, 1) := by decide +kernel
theorem dX7_set_63 : decode cX7_set 63 = .ok (.imul, 1) := by decide +kernel
theorem dX7_set_64 : decode cX7_set 64 = .ok (.iload_n 2, 1) := by decide +kernel
theorem dX7_set_65 : decode cX7_set 65 = .ok (.iadd, 1) := by decide +kernel
theorem dX7_set_66 : decode cX7_set 66 = .ok (.iload_n 3, 1) := by decide +kernel
theorem dX7_set_67 : decode cX7_set 67 = .ok (.iastore, 1) := by decide +kernel
theorem dX7_set_68 : decode cX7_set 68 = .ok (.iconst 1, 1) := by decide +kernel
theorem dX7_set_69 : decode cX7_set 69 = .ok (.ireturn, 1) := by decide +kernel
theorem dX7_get_0 : decode cX7_get 0 = .ok (.aload_n 0, 1) := by decide +kernel
theorem dX7_get_1 : decode cX7_get 1 = .ok (.iconst 0, 1) := by decide +kernel
theorem dX7_get_2 : decode cX7_get 2 = .ok (.putfield 75, 3) := by decide +kernel
theorem dX7_get_5 : decode cX7_get 5 = .ok (.iload_n 1, 1) := by decide +kernel
theorem dX7_get_6 : decode cX7_get 6 = .ok (.invokestatic 267, 3) := by decide +kernel
theorem dX7_get_9 : decode cX7_get 9 = .ok (.ifCond .eq 44, 3) := by decide +kernel
theorem dX7_get_12 : decode cX7_get 12 = .ok (.aload_n 0, 1) := by decide +kernel
theorem dX7_get_13 : decode cX7_get 13 = .ok (.getfield 62, 3) := by decide +kernel
theorem dX7_get_16 : decode cX7_get 16 = .ok (.iload_n 1, 1) := by decide +kernel
theorem dX7_get_17 : decode cX7_get 17 = .ok (.baload, 1) := by decide +kernel
theorem dX7_get_18 : decode cX7_get 18 = .ok (.ifCond .eq 35, 3) := by decide +kernel
theorem dX7_get_21 : decode cX7_get 21 = .ok (.iload_n 2, 1) := by decide +kernel
theorem dX7_get_22 : decode cX7_get 22 = .ok (.i2l, 1) := by decide +kernel
theorem dX7_get_23 : decode cX7_get 23 = .ok (.lconst 0, 1) := by decide +kernel
theorem dX7_get_24 : decode cX7_get 24 = .ok (.aload_n 0, 1) := by decide +kernel
theorem dX7_get_25 : decode cX7_get 25 = .ok (.getfield 66, 3) := by decide +kernel
theorem dX7_get_28 : decode cX7_get 28 = .ok (.iload_n 1, 1) := by decide +kernel
theorem dX7_get_29 : decode cX7_get 29 = .ok (.iaload, 1) := by decide +kernel
theorem dX7_get_30 : decode cX7_get 30 = .ok (.iconst 1, 1) := by decide +kernel
theorem dX7_get_31 : decode cX7_get 31 = .ok (.isub, 1) := by decide +kernel
theorem dX7_get_32 : decode cX7_get 32 = .ok (.i2l, 1) := by decide +kernel
theorem dX7_get_33 : decode cX7_get 33 = .ok (.invokestatic 81, 3) := by decide +kernel
theorem dX7_get_36 : decode cX7_get 36 = .ok (.ifCond .eq 17, 3) := by decide +kernel
theorem dX7_get_39 : decode cX7_get 39 = .ok (.aload_n 0, 1) := by decide +kernel
theorem dX7_get_40 : decode cX7_get 40 = .ok (.getfield 69, 3) := by decide +kernel
theorem dX7_get_43 : decode cX7_get 43 = .ok (.bipush 20, 2) := by decide +kernel
theorem dX7_get_45 : decode cX7_get 45 = .ok (.iload_n 1, 1) := by decide +kernel
theorem dX7_get_46 : decode cX7_get 46 = .ok (.imul, 1) := by decide +kernel
theorem dX7_get_47 : decode cX7_get 47 = .ok (.iload_n 2, 1) := by decide +kernel
theorem dX7_get_48 : decode cX7_get 48 = .ok (.iadd, 1) := by decide +kernel
theorem dX7_get_49 : decode cX7_get 49 = .ok (.iaload, 1) := by decide +kernel
theorem dX7_get_50 : decode cX7_get 50 = .ok (.goto 6, 3) := by decide +kernel
theorem dX7_get_53 : decode cX7_get 53 = .ok (.ldc_w 270, 3) := by decide +kernel
theorem dX7_get_56 : decode cX7_get 56 = .ok (.ireturn, 1) := by decide +kernel
theorem dX7_lay_0 : decode cX7_lay 0 = .ok (.aload_n 0, 1) := by decide +kernel
theorem dX7_lay_1 : decode cX7_lay 1 = .ok (.iconst 0, 1) := by decide +kernel
theorem dX7_lay_2 : decode cX7_lay 2 = .ok (.putfield 75, 3) := by decide +kernel
theorem dX7_lay_5 : decode cX7_lay 5 = .ok (.iload_n 1, 1) := by decide +kernel
theorem dX7_lay_6 : decode cX7_lay 6 = .ok (.invokestatic 267, 3) := by decide +kernel
theorem dX7_lay_9 : decode cX7_lay 9 = .ok (.ifCond .eq 12, 3) := by decide +kernel
theorem dX7_lay_12 : decode cX7_lay 12 = .ok (.aload_n 0, 1) := by decide +kernel
theorem dX7_lay_13 : decode cX7_lay 13 = .ok (.getfield 62, 3) := by decide +kernel
theorem dX7_lay_16 : decode cX7_lay 16 = .ok (.iload_n 1, 1) := by decide +kernel
theorem dX7_lay_17 : decode cX7_lay 17 = .ok (.baload, 1) := by decide +kernel
theorem dX7_lay_18 : decode cX7_lay 18 = .ok (.ifCond .ne 17, 3) := by decide +kernel
theorem dX7_lay_21 : decode cX7_lay 21 = .ok (.iload_n 1, 1) := by decide +kernel
theorem dX7_lay_22 : decode cX7_lay 22 = .ok (.invokestatic 267, 3) := by decide +kernel
theorem dX7_lay_25 : decode cX7_lay 25 = .ok (.ifCond .eq 8, 3) := by decide +kernel
theorem dX7_lay_28 : decode cX7_lay 28 = .ok (.bipush (-11), 2) := by decide +kernel
theorem dX7_lay_30 : decode cX7_lay 30 = .ok (.goto 4, 3) := by decide +kernel
theorem dX7_lay_33 : decode cX7_lay 33 = .ok (.iconst (-1), 1) := by decide +kernel
theorem dX7_lay_34 : decode cX7_lay 34 = .ok (.ireturn, 1) := by decide +kernel
theorem dX7_lay_35 : decode cX7_lay 35 = .ok (.aload_n 0, 1) := by decide +kernel
theorem dX7_lay_36 : decode cX7_lay 36 = .ok (.invokevirtual 178, 3) := by decide +kernel
theorem dX7_lay_39 : decode cX7_lay 39 = .ok (.iconst 0, 1) := by decide +kernel
theorem dX7_lay_40 : decode cX7_lay 40 = .ok (.istore_n 3, 1) := by decide +kernel
theorem dX7_lay_41 : decode cX7_lay 41 = .ok (.iload_n 3, 1) := by decide +kernel
theorem dX7_lay_42 : decode cX7_lay 42 = .ok (.aload_n 0, 1) := by decide +kernel
theorem dX7_lay_43 : decode cX7_lay 43 = .ok (.getfield 78, 3) := by decide +kernel
theorem dX7_lay_46 : decode cX7_lay 46 = .ok (.if_icmp .ge 51, 3) := by decide +kernel
theorem dX7_lay_49 : decode cX7_lay 49 = .ok (.iload_n 2, 1) := by decide +kernel
theorem dX7_lay_50 : decode cX7_lay 50 = .ok (.ifCond .lt 19, 3) := by decide +kernel
theorem dX7_lay_53 : decode cX7_lay 53 = .ok (.iload_n 2, 1) := by decide +kernel
theorem dX7_lay_54 : decode cX7_lay 54 = .ok (.i2l, 1) := by decide +kernel
theorem dX7_lay_55 : decode cX7_lay 55 = .ok (.iload_n 3, 1) := by decide +kernel
theorem dX7_lay_56 : decode cX7_lay 56 = .ok (.i2l, 1) := by decide +kernel
theorem dX7_lay_57 : decode cX7_lay 57 = .ok (.ladd, 1) := by decide +kernel
theorem dX7_lay_58 : decode cX7_lay 58 = .ok (.aload_n 0, 1) := by decide +kernel
theorem dX7_lay_59 : decode cX7_lay 59 = .ok (.getfield 66, 3) := by decide +kernel
theorem dX7_lay_62 : decode cX7_lay 62 = .ok (.iload_n 1, 1) := by decide +kernel
theorem dX7_lay_63 : decode cX7_lay 63 = .ok (.iaload, 1) := by decide +kernel
theorem dX7_lay_64 : decode cX7_lay 64 = .ok (.i2l, 1) := by decide +kernel
theorem dX7_lay_65 : decode cX7_lay 65 = .ok (.lcmp, 1) := by decide +kernel
theorem dX7_lay_66 : decode cX7_lay 66 = .ok (.ifCond .lt 6, 3) := by decide +kernel
theorem dX7_lay_69 : decode cX7_lay 69 = .ok (.bipush (-13), 2) := by decide +kernel
theorem dX7_lay_71 : decode cX7_lay 71 = .ok (.ireturn, 1) := by decide +kernel
theorem dX7_lay_72 : decode cX7_lay 72 = .ok (.aload_n 0, 1) := by decide +kernel
theorem dX7_lay_73 : decode cX7_lay 73 = .ok (.getfield 69, 3) := by decide +kernel
theorem dX7_lay_76 : decode cX7_lay 76 = .ok (.bipush 20, 2) := by decide +kernel
theorem dX7_lay_78 : decode cX7_lay 78 = .ok (.iload_n 1, 1) := by decide +kernel
theorem dX7_lay_79 : decode cX7_lay 79 = .ok (.imul, 1) := by decide +kernel
theorem dX7_lay_80 : decode cX7_lay 80 = .ok (.iload_n 2, 1) := by decide +kernel
theorem dX7_lay_81 : decode cX7_lay 81 = .ok (.iadd, 1) := by decide +kernel
theorem dX7_lay_82 : decode cX7_lay 82 = .ok (.iload_n 3, 1) := by decide +kernel
theorem dX7_lay_83 : decode cX7_lay 83 = .ok (.iadd, 1) := by decide +kernel
theorem dX7_lay_84 : decode cX7_lay 84 = .ok (.aload_n 0, 1) := by decide +kernel
theorem dX7_lay_85 : decode cX7_lay 85 = .ok (.getfield 41, 3) := by decide +kernel
theorem dX7_lay_88 : decode cX7_lay 88 = .ok (.iload_n 3, 1) := by decide +kernel
theorem dX7_lay_89 : decode cX7_lay 89 = .ok (.iaload, 1) := by decide +kernel
theorem dX7_lay_90 : decode cX7_lay 90 = .ok (.iastore, 1) := by decide +kernel
theorem dX7_lay_91 : decode cX7_lay 91 = .ok (.iinc 3 1, 3) := by decide +kernel
theorem dX7_lay_94 : decode cX7_lay 94 = .ok (.goto (-53), 3) := by decide +kernel
theorem dX7_lay_97 : decode cX7_lay 97 = .ok (.aload_n 0, 1) := by decide +kernel
theorem dX7_lay_98 : decode cX7_lay 98 = .ok (.getfield 78, 3) := by decide +kernel
theorem dX7_lay_101 : decode cX7_lay 101 = .ok (.ireturn, 1) := by decide +kernel
theorem dX7_judge_0 : decode cX7_judge 0 = .ok (.aload_n 0, 1) := by decide +kernel
theorem dX7_judge_1 : decode cX7_judge 1 = .ok (.iconst 0, 1) := by decide +kernel
theorem dX7_judge_2 : decode cX7_judge 2 = .ok (.putfield 75, 3) := by decide +kernel
theorem dX7_judge_5 : decode cX7_judge 5 = .ok (.iload_n 1, 1) := by decide +kernel
theorem dX7_judge_6 : decode cX7_judge 6 = .ok (.invokestatic 267, 3) := by decide +kernel
theorem dX7_judge_9 : decode cX7_judge 9 = .ok (.ifCond .eq 12, 3) := by decide +kernel
theorem dX7_judge_12 : decode cX7_judge 12 = .ok (.aload_n 0, 1) := by decide +kernel
theorem dX7_judge_13 : decode cX7_judge 13 = .ok (.getfield 62, 3) := by decide +kernel
theorem dX7_judge_16 : decode cX7_judge 16 = .ok (.iload_n 1, 1) := by decide +kernel
theorem dX7_judge_17 : decode cX7_judge 17 = .ok (.baload, 1) := by decide +kernel
theorem dX7_judge_18 : decode cX7_judge 18 = .ok (.ifCond .ne 17, 3) := by decide +kernel
theorem dX7_judge_21 : decode cX7_judge 21 = .ok (.iload_n 1, 1) := by decide +kernel
theorem dX7_judge_22 : decode cX7_judge 22 = .ok (.invokestatic 267, 3) := by decide +kernel
theorem dX7_judge_25 : decode cX7_judge 25 = .ok (.ifCond .eq 8, 3) := by decide +kernel
theorem dX7_judge_28 : decode cX7_judge 28 = .ok (.bipush (-11), 2) := by decide +kernel
theorem dX7_judge_30 : decode cX7_judge 30 = .ok (.goto 4, 3) := by decide +kernel
theorem dX7_judge_33 : decode cX7_judge 33 = .ok (.iconst (-1), 1) := by decide +kernel
theorem dX7_judge_34 : decode cX7_judge 34 = .ok (.ireturn, 1) := by decide +kernel
theorem dX7_judge_35 : decode cX7_judge 35 = .ok (.aload_n 0, 1) := by decide +kernel
theorem dX7_judge_36 : decode cX7_judge 36 = .ok (.invokevirtual 178, 3) := by decide +kernel
theorem dX7_judge_39 : decode cX7_judge 39 = .ok (.iconst 0, 1) := by decide +kernel
theorem dX7_judge_40 : decode cX7_judge 40 = .ok (.istore_n 3, 1) := by decide +kernel
theorem dX7_judge_41 : decode cX7_judge 41 = .ok (.iload_n 3, 1) := by decide +kernel
theorem dX7_judge_42 : decode cX7_judge 42 = .ok (.aload_n 0, 1) := by decide +kernel
theorem dX7_judge_43 : decode cX7_judge 43 = .ok (.getfield 78, 3) := by decide +kernel
theorem dX7_judge_46 : decode cX7_judge 46 = .ok (.if_icmp .ge 58, 3) := by decide +kernel
theorem dX7_judge_49 : decode cX7_judge 49 = .ok (.iload_n 2, 1) := by decide +kernel
theorem dX7_judge_50 : decode cX7_judge 50 = .ok (.ifCond .lt 19, 3) := by decide +kernel
theorem dX7_judge_53 : decode cX7_judge 53 = .ok (.iload_n 2, 1) := by decide +kernel
theorem dX7_judge_54 : decode cX7_judge 54 = .ok (.i2l, 1) := by decide +kernel
theorem dX7_judge_55 : decode cX7_judge 55 = .ok (.iload_n 3, 1) := by decide +kernel
theorem dX7_judge_56 : decode cX7_judge 56 = .ok (.i2l, 1) := by decide +kernel
theorem dX7_judge_57 : decode cX7_judge 57 = .ok (.ladd, 1) := by decide +kernel
theorem dX7_judge_58 : decode cX7_judge 58 = .ok (.aload_n 0, 1) := by decide +kernel
theorem dX7_judge_59 : decode cX7_judge 59 = .ok (.getfield 66, 3) := by decide +kernel
theorem dX7_judge_62 : decode cX7_judge 62 = .ok (.iload_n 1, 1) := by decide +kernel
theorem dX7_judge_63 : decode cX7_judge 63 = .ok (.iaload, 1) := by decide +kernel
theorem dX7_judge_64 : decode cX7_judge 64 = .ok (.i2l, 1) := by decide +kernel
theorem dX7_judge_65 : decode cX7_judge 65 = .ok (.lcmp, 1) := by decide +kernel
theorem dX7_judge_66 : decode cX7_judge 66 = .ok (.ifCond .lt 8, 3) := by decide +kernel
theorem dX7_judge_69 : decode cX7_judge 69 = .ok (.bipush 100, 2) := by decide +kernel
theorem dX7_judge_71 : decode cX7_judge 71 = .ok (.iload_n 3, 1) := by decide +kernel
theorem dX7_judge_72 : decode cX7_judge 72 = .ok (.iadd, 1) := by decide +kernel
theorem dX7_judge_73 : decode cX7_judge 73 = .ok (.ireturn, 1) := by decide +kernel
theorem dX7_judge_74 : decode cX7_judge 74 = .ok (.aload_n 0, 1) := by decide +kernel
theorem dX7_judge_75 : decode cX7_judge 75 = .ok (.getfield 69, 3) := by decide +kernel
theorem dX7_judge_78 : decode cX7_judge 78 = .ok (.bipush 20, 2) := by decide +kernel
theorem dX7_judge_80 : decode cX7_judge 80 = .ok (.iload_n 1, 1) := by decide +kernel
theorem dX7_judge_81 : decode cX7_judge 81 = .ok (.imul, 1) := by decide +kernel
theorem dX7_judge_82 : decode cX7_judge 82 = .ok (.iload_n 2, 1) := by decide +kernel
theorem dX7_judge_83 : decode cX7_judge 83 = .ok (.iadd, 1) := by decide +kernel
theorem dX7_judge_84 : decode cX7_judge 84 = .ok (.iload_n 3, 1) := by decide +kernel
theorem dX7_judge_85 : decode cX7_judge 85 = .ok (.iadd, 1) := by decide +kernel
theorem dX7_judge_86 : decode cX7_judge 86 = .ok (.iaload, 1) := by decide +kernel
theorem dX7_judge_87 : decode cX7_judge 87 = .ok (.aload_n 0, 1) := by decide +kernel
theorem dX7_judge_88 : decode cX7_judge 88 = .ok (.getfield 41, 3) := by decide +kernel
theorem dX7_judge_91 : decode cX7_judge 91 = .ok (.iload_n 3, 1) := by decide +kernel
theorem dX7_judge_92 : decode cX7_judge 92 = .ok (.iaload, 1) := by decide +kernel
theorem dX7_judge_93 : decode cX7_judge 93 = .ok (.if_icmp .eq 5, 3) := by decide +kernel
theorem dX7_judge_96 : decode cX7_judge 96 = .ok (.iload_n 3, 1) := by decide +kernel
theorem dX7_judge_97 : decode cX7_judge 97 = .ok (.ireturn, 1) := by decide +kernel
theorem dX7_judge_98 : decode cX7_judge 98 = .ok (.iinc 3 1, 3) := by decide +kernel
theorem dX7_judge_101 : decode cX7_judge 101 = .ok (.goto (-60), 3) := by decide +kernel
theorem dX7_judge_104 : decode cX7_judge 104 = .ok (.bipush (-5), 2) := by decide +kernel
theorem dX7_judge_106 : decode cX7_judge 106 = .ok (.ireturn, 1) := by decide +kernel
theorem dX7_carry_0 : decode cX7_carry 0 = .ok (.aload_n 0, 1) := by decide +kernel
theorem dX7_carry_1 : decode cX7_carry 1 = .ok (.getfield 271, 3) := by decide +kernel
theorem dX7_carry_4 : decode cX7_carry 4 = .ok (.ifCond .eq 13, 3) := by decide +kernel
theorem dX7_carry_7 : decode cX7_carry 7 = .ok (.aload_n 0, 1) := by decide +kernel
theorem dX7_carry_8 : decode cX7_carry 8 = .ok (.getfield 275, 3) := by decide +kernel
theorem dX7_carry_11 : decode cX7_carry 11 = .ok (.aload_n 0, 1) := by decide +kernel
theorem dX7_carry_12 : decode cX7_carry 12 = .ok (.getfield 278, 3) := by decide +kernel
theorem dX7_carry_15 : decode cX7_carry 15 = .ok (.iload_n 1, 1) := by decide +kernel
theorem dX7_carry_16 : decode cX7_carry 16 = .ok (.iastore, 1) := by decide +kernel
theorem dX7_carry_17 : decode cX7_carry 17 = .ok (.aload_n 0, 1) := by decide +kernel
theorem dX7_carry_18 : decode cX7_carry 18 = .ok (.dup, 1) := by decide +kernel
theorem dX7_carry_19 : decode cX7_carry 19 = .ok (.getfield 278, 3) := by decide +kernel
theorem dX7_carry_22 : decode cX7_carry 22 = .ok (.iconst 1, 1) := by decide +kernel
theorem dX7_carry_23 : decode cX7_carry 23 = .ok (.iadd, 1) := by decide +kernel
theorem dX7_carry_24 : decode cX7_carry 24 = .ok (.putfield 278, 3) := by decide +kernel
theorem dX7_carry_27 : decode cX7_carry 27 = .ok (.aload_n 0, 1) := by decide +kernel
theorem dX7_carry_28 : decode cX7_carry 28 = .ok (.getfield 275, 3) := by decide +kernel
theorem dX7_carry_31 : decode cX7_carry 31 = .ok (.aload_n 0, 1) := by decide +kernel
theorem dX7_carry_32 : decode cX7_carry 32 = .ok (.getfield 278, 3) := by decide +kernel
theorem dX7_carry_35 : decode cX7_carry 35 = .ok (.iconst 1, 1) := by decide +kernel
theorem dX7_carry_36 : decode cX7_carry 36 = .ok (.isub, 1) := by decide +kernel
theorem dX7_carry_37 : decode cX7_carry 37 = .ok (.iaload, 1) := by decide +kernel
theorem dX7_carry_38 : decode cX7_carry 38 = .ok (.ireturn, 1) := by decide +kernel
theorem dX7_carryAll_0 : decode cX7_carryAll 0 = .ok (.aload_n 0, 1) := by decide +kernel
theorem dX7_carryAll_1 : decode cX7_carryAll 1 = .ok (.aload_n 0, 1) := by decide +kernel
theorem dX7_carryAll_2 : decode cX7_carryAll 2 = .ok (.getfield 72, 3) := by decide +kernel
theorem dX7_carryAll_5 : decode cX7_carryAll 5 = .ok (.putfield 275, 3) := by decide +kernel
theorem dX7_carryAll_8 : decode cX7_carryAll 8 = .ok (.aload_n 0, 1) := by decide +kernel
theorem dX7_carryAll_9 : decode cX7_carryAll 9 = .ok (.iload_n 1, 1) := by decide +kernel
theorem dX7_carryAll_10 : decode cX7_carryAll 10 = .ok (.putfield 271, 3) := by decide +kernel
theorem dX7_carryAll_13 : decode cX7_carryAll 13 = .ok (.aload_n 0, 1) := by decide +kernel
theorem dX7_carryAll_14 : decode cX7_carryAll 14 = .ok (.iconst 0, 1) := by decide +kernel
theorem dX7_carryAll_15 : decode cX7_carryAll 15 = .ok (.putfield 278, 3) := by decide +kernel
theorem dX7_carryAll_18 : decode cX7_carryAll 18 = .ok (.aload_n 0, 1) := by decide +kernel
theorem dX7_carryAll_19 : decode cX7_carryAll 19 = .ok (.aload_n 0, 1) := by decide +kernel
theorem dX7_carryAll_20 : decode cX7_carryAll 20 = .ok (.aload_n 0, 1) := by decide +kernel
theorem dX7_carryAll_21 : decode cX7_carryAll 21 = .ok (.getfield 78, 3) := by decide +kernel
theorem dX7_carryAll_24 : decode cX7_carryAll 24 = .ok (.invokevirtual 281, 3) := by decide +kernel
theorem dX7_carryAll_27 : decode cX7_carryAll 27 = .ok (.putfield 78, 3) := by decide +kernel
theorem dX7_carryAll_30 : decode cX7_carryAll 30 = .ok (.aload_n 0, 1) := by decide +kernel
theorem dX7_carryAll_31 : decode cX7_carryAll 31 = .ok (.aload_n 0, 1) := by decide +kernel
theorem dX7_carryAll_32 : decode cX7_carryAll 32 = .ok (.aload_n 0, 1) := by decide +kernel
theorem dX7_carryAll_33 : decode cX7_carryAll 33 = .ok (.getfield 89, 3) := by decide +kernel
theorem dX7_carryAll_36 : decode cX7_carryAll 36 = .ok (.invokevirtual 281, 3) := by decide +kernel
theorem dX7_carryAll_39 : decode cX7_carryAll 39 = .ok (.putfield 89, 3) := by decide +kernel
theorem dX7_carryAll_42 : decode cX7_carryAll 42 = .ok (.aload_n 0, 1) := by decide +kernel
theorem dX7_carryAll_43 : decode cX7_carryAll 43 = .ok (.aload_n 0, 1) := by decide +kernel
theorem dX7_carryAll_44 : decode cX7_carryAll 44 = .ok (.aload_n 0, 1) := by decide +kernel
theorem dX7_carryAll_45 : decode cX7_carryAll 45 = .ok (.getfield 92, 3) := by decide +kernel
theorem dX7_carryAll_48 : decode cX7_carryAll 48 = .ok (.invokevirtual 281, 3) := by decide +kernel
theorem dX7_carryAll_51 : decode cX7_carryAll 51 = .ok (.putfield 92, 3) := by decide +kernel
theorem dX7_carryAll_54 : decode cX7_carryAll 54 = .ok (.aload_n 0, 1) := by decide +kernel
theorem dX7_carryAll_55 : decode cX7_carryAll 55 = .ok (.aload_n 0, 1) := by decide +kernel
theorem dX7_carryAll_56 : decode cX7_carryAll 56 = .ok (.aload_n 0, 1) := by decide +kernel
theorem dX7_carryAll_57 : decode cX7_carryAll 57 = .ok (.getfield 31, 3) := by decide +kernel
theorem dX7_carryAll_60 : decode cX7_carryAll 60 = .ok (.invokevirtual 281, 3) := by decide +kernel
theorem dX7_carryAll_63 : decode cX7_carryAll 63 = .ok (.putfield 31, 3) := by decide +kernel
theorem dX7_carryAll_66 : decode cX7_carryAll 66 = .ok (.iconst 0, 1) := by decide +kernel
theorem dX7_carryAll_67 : decode cX7_carryAll 67 = .ok (.istore_n 2, 1) := by decide +kernel
theorem dX7_carryAll_68 : decode cX7_carryAll 68 = .ok (.iload_n 2, 1) := by decide +kernel
theorem dX7_carryAll_69 : decode cX7_carryAll 69 = .ok (.bipush 12, 2) := by decide +kernel
theorem dX7_carryAll_71 : decode cX7_carryAll 71 = .ok (.if_icmp .ge 41, 3) := by decide +kernel
theorem dX7_carryAll_74 : decode cX7_carryAll 74 = .ok (.aload_n 0, 1) := by decide +kernel
theorem dX7_carryAll_75 : decode cX7_carryAll 75 = .ok (.getfield 7, 3) := by decide +kernel
theorem dX7_carryAll_78 : decode cX7_carryAll 78 = .ok (.iload_n 2, 1) := by decide +kernel
theorem dX7_carryAll_79 : decode cX7_carryAll 79 = .ok (.aload_n 0, 1) := by decide +kernel
theorem dX7_carryAll_80 : decode cX7_carryAll 80 = .ok (.aload_n 0, 1) := by decide +kernel
theorem dX7_carryAll_81 : decode cX7_carryAll 81 = .ok (.getfield 7, 3) := by decide +kernel
theorem dX7_carryAll_84 : decode cX7_carryAll 84 = .ok (.iload_n 2, 1) := by decide +kernel
theorem dX7_carryAll_85 : decode cX7_carryAll 85 = .ok (.iaload, 1) := by decide +kernel
theorem dX7_carryAll_86 : decode cX7_carryAll 86 = .ok (.invokevirtual 281, 3) := by decide +kernel
theorem dX7_carryAll_89 : decode cX7_carryAll 89 = .ok (.iastore, 1) := by decide +kernel
theorem dX7_carryAll_90 : decode cX7_carryAll 90 = .ok (.aload_n 0, 1) := by decide +kernel
theorem dX7_carryAll_91 : decode cX7_carryAll 91 = .ok (.getfield 13, 3) := by decide +kernel
theorem dX7_carryAll_94 : decode cX7_carryAll 94 = .ok (.iload_n 2, 1) := by decide +kernel
theorem dX7_carryAll_95 : decode cX7_carryAll 95 = .ok (.aload_n 0, 1) := by decide +kernel
theorem dX7_carryAll_96 : decode cX7_carryAll 96 = .ok (.aload_n 0, 1) := by decide +kernel
theorem dX7_carryAll_97 : decode cX7_carryAll 97 = .ok (.getfield 13, 3) := by decide +kernel
theorem dX7_carryAll_100 : decode cX7_carryAll 100 = .ok (.iload_n 2, 1) := by decide +kernel
theorem dX7_carryAll_101 : decode cX7_carryAll 101 = .ok (.iaload, 1) := by decide +kernel
theorem dX7_carryAll_102 : decode cX7_carryAll 102 = .ok (.invokevirtual 281, 3) := by decide +kernel
theorem dX7_carryAll_105 : decode cX7_carryAll 105 = .ok (.iastore, 1) := by decide +kernel
theorem dX7_carryAll_106 : decode cX7_carryAll 106 = .ok (.iinc 2 1, 3) := by decide +kernel
theorem dX7_carryAll_109 : decode cX7_carryAll 109 = .ok (.goto (-41), 3) := by decide +kernel
theorem dX7_carryAll_112 : decode cX7_carryAll 112 = .ok (.iconst 0, 1) := by decide +kernel
theorem dX7_carryAll_113 : decode cX7_carryAll 113 = .ok (.istore_n 2, 1) := by decide +kernel
theorem dX7_carryAll_114 : decode cX7_carryAll 114 = .ok (.iload_n 2, 1) := by decide +kernel
theorem dX7_carryAll_115 : decode cX7_carryAll 115 = .ok (.bipush 9, 2) := by decide +kernel
theorem dX7_carryAll_117 : decode cX7_carryAll 117 = .ok (.if_icmp .ge 25, 3) := by decide +kernel
theorem dX7_carryAll_120 : decode cX7_carryAll 120 = .ok (.aload_n 0, 1) := by decide +kernel
theorem dX7_carryAll_121 : decode cX7_carryAll 121 = .ok (.getfield 35, 3) := by decide +kernel
theorem dX7_carryAll_124 : decode cX7_carryAll 124 = .ok (.iload_n 2, 1) := by decide +kernel
theorem dX7_carryAll_125 : decode cX7_carryAll 125 = .ok (.aload_n 0, 1) := by decide +kernel
theorem dX7_carryAll_126 : decode cX7_carryAll 126 = .ok (.aload_n 0, 1) := by decide +kernel
theorem dX7_carryAll_127 : decode cX7_carryAll 127 = .ok (.getfield 35, 3) := by decide +kernel
theorem dX7_carryAll_130 : decode cX7_carryAll 130 = .ok (.iload_n 2, 1) := by decide +kernel
theorem dX7_carryAll_131 : decode cX7_carryAll 131 = .ok (.iaload, 1) := by decide +kernel
theorem dX7_carryAll_132 : decode cX7_carryAll 132 = .ok (.invokevirtual 281, 3) := by decide +kernel
theorem dX7_carryAll_135 : decode cX7_carryAll 135 = .ok (.iastore, 1) := by decide +kernel
theorem dX7_carryAll_136 : decode cX7_carryAll 136 = .ok (.iinc 2 1, 3) := by decide +kernel
theorem dX7_carryAll_139 : decode cX7_carryAll 139 = .ok (.goto (-25), 3) := by decide +kernel
theorem dX7_carryAll_142 : decode cX7_carryAll 142 = .ok (.iconst 0, 1) := by decide +kernel
theorem dX7_carryAll_143 : decode cX7_carryAll 143 = .ok (.istore_n 2, 1) := by decide +kernel
theorem dX7_carryAll_144 : decode cX7_carryAll 144 = .ok (.iload_n 2, 1) := by decide +kernel
theorem dX7_carryAll_145 : decode cX7_carryAll 145 = .ok (.bipush 20, 2) := by decide +kernel
theorem dX7_carryAll_147 : decode cX7_carryAll 147 = .ok (.if_icmp .ge 41, 3) := by decide +kernel
theorem dX7_carryAll_150 : decode cX7_carryAll 150 = .ok (.aload_n 0, 1) := by decide +kernel
theorem dX7_carryAll_151 : decode cX7_carryAll 151 = .ok (.getfield 16, 3) := by decide +kernel
theorem dX7_carryAll_154 : decode cX7_carryAll 154 = .ok (.iload_n 2, 1) := by decide +kernel
theorem dX7_carryAll_155 : decode cX7_carryAll 155 = .ok (.aload_n 0, 1) := by decide +kernel
theorem dX7_carryAll_156 : decode cX7_carryAll 156 = .ok (.aload_n 0, 1) := by decide +kernel
theorem dX7_carryAll_157 : decode cX7_carryAll 157 = .ok (.getfield 16, 3) := by decide +kernel
theorem dX7_carryAll_160 : decode cX7_carryAll 160 = .ok (.iload_n 2, 1) := by decide +kernel
theorem dX7_carryAll_161 : decode cX7_carryAll 161 = .ok (.iaload, 1) := by decide +kernel
theorem dX7_carryAll_162 : decode cX7_carryAll 162 = .ok (.invokevirtual 281, 3) := by decide +kernel
theorem dX7_carryAll_165 : decode cX7_carryAll 165 = .ok (.iastore, 1) := by decide +kernel
theorem dX7_carryAll_166 : decode cX7_carryAll 166 = .ok (.aload_n 0, 1) := by decide +kernel
theorem dX7_carryAll_167 : decode cX7_carryAll 167 = .ok (.getfield 19, 3) := by decide +kernel
theorem dX7_carryAll_170 : decode cX7_carryAll 170 = .ok (.iload_n 2, 1) := by decide +kernel
theorem dX7_carryAll_171 : decode cX7_carryAll 171 = .ok (.aload_n 0, 1) := by decide +kernel
theorem dX7_carryAll_172 : decode cX7_carryAll 172 = .ok (.aload_n 0, 1) := by decide +kernel
theorem dX7_carryAll_173 : decode cX7_carryAll 173 = .ok (.getfield 19, 3) := by decide +kernel
theorem dX7_carryAll_176 : decode cX7_carryAll 176 = .ok (.iload_n 2, 1) := by decide +kernel
theorem dX7_carryAll_177 : decode cX7_carryAll 177 = .ok (.iaload, 1) := by decide +kernel
theorem dX7_carryAll_178 : decode cX7_carryAll 178 = .ok (.invokevirtual 281, 3) := by decide +kernel
theorem dX7_carryAll_181 : decode cX7_carryAll 181 = .ok (.iastore, 1) := by decide +kernel
theorem dX7_carryAll_182 : decode cX7_carryAll 182 = .ok (.iinc 2 1, 3) := by decide +kernel
theorem dX7_carryAll_185 : decode cX7_carryAll 185 = .ok (.goto (-41), 3) := by decide +kernel
theorem dX7_carryAll_188 : decode cX7_carryAll 188 = .ok (.iconst 0, 1) := by decide +kernel
theorem dX7_carryAll_189 : decode cX7_carryAll 189 = .ok (.istore_n 2, 1) := by decide +kernel
theorem dX7_carryAll_190 : decode cX7_carryAll 190 = .ok (.iload_n 2, 1) := by decide +kernel
theorem dX7_carryAll_191 : decode cX7_carryAll 191 = .ok (.bipush 120, 2) := by decide +kernel
theorem dX7_carryAll_193 : decode cX7_carryAll 193 = .ok (.if_icmp .ge 57, 3) := by decide +kernel
theorem dX7_carryAll_196 : decode cX7_carryAll 196 = .ok (.aload_n 0, 1) := by decide +kernel
theorem dX7_carryAll_197 : decode cX7_carryAll 197 = .ok (.getfield 22, 3) := by decide +kernel
theorem dX7_carryAll_200 : decode cX7_carryAll 200 = .ok (.iload_n 2, 1) := by decide +kernel
theorem dX7_carryAll_201 : decode cX7_carryAll 201 = .ok (.aload_n 0, 1) := by decide +kernel
theorem dX7_carryAll_202 : decode cX7_carryAll 202 = .ok (.aload_n 0, 1) := by decide +kernel
theorem dX7_carryAll_203 : decode cX7_carryAll 203 = .ok (.getfield 22, 3) := by decide +kernel
theorem dX7_carryAll_206 : decode cX7_carryAll 206 = .ok (.iload_n 2, 1) := by decide +kernel
theorem dX7_carryAll_207 : decode cX7_carryAll 207 = .ok (.iaload, 1) := by decide +kernel
theorem dX7_carryAll_208 : decode cX7_carryAll 208 = .ok (.invokevirtual 281, 3) := by decide +kernel
theorem dX7_carryAll_211 : decode cX7_carryAll 211 = .ok (.iastore, 1) := by decide +kernel
theorem dX7_carryAll_212 : decode cX7_carryAll 212 = .ok (.aload_n 0, 1) := by decide +kernel
theorem dX7_carryAll_213 : decode cX7_carryAll 213 = .ok (.getfield 25, 3) := by decide +kernel
theorem dX7_carryAll_216 : decode cX7_carryAll 216 = .ok (.iload_n 2, 1) := by decide +kernel
theorem dX7_carryAll_217 : decode cX7_carryAll 217 = .ok (.aload_n 0, 1) := by decide +kernel
theorem dX7_carryAll_218 : decode cX7_carryAll 218 = .ok (.aload_n 0, 1) := by decide +kernel
theorem dX7_carryAll_219 : decode cX7_carryAll 219 = .ok (.getfield 25, 3) := by decide +kernel
theorem dX7_carryAll_222 : decode cX7_carryAll 222 = .ok (.iload_n 2, 1) := by decide +kernel
theorem dX7_carryAll_223 : decode cX7_carryAll 223 = .ok (.iaload, 1) := by decide +kernel
theorem dX7_carryAll_224 : decode cX7_carryAll 224 = .ok (.invokevirtual 281, 3) := by decide +kernel
theorem dX7_carryAll_227 : decode cX7_carryAll 227 = .ok (.iastore, 1) := by decide +kernel
theorem dX7_carryAll_228 : decode cX7_carryAll 228 = .ok (.aload_n 0, 1) := by decide +kernel
theorem dX7_carryAll_229 : decode cX7_carryAll 229 = .ok (.getfield 28, 3) := by decide +kernel
theorem dX7_carryAll_232 : decode cX7_carryAll 232 = .ok (.iload_n 2, 1) := by decide +kernel
theorem dX7_carryAll_233 : decode cX7_carryAll 233 = .ok (.aload_n 0, 1) := by decide +kernel
theorem dX7_carryAll_234 : decode cX7_carryAll 234 = .ok (.aload_n 0, 1) := by decide +kernel
theorem dX7_carryAll_235 : decode cX7_carryAll 235 = .ok (.getfield 28, 3) := by decide +kernel
theorem dX7_carryAll_238 : decode cX7_carryAll 238 = .ok (.iload_n 2, 1) := by decide +kernel
theorem dX7_carryAll_239 : decode cX7_carryAll 239 = .ok (.iaload, 1) := by decide +kernel
theorem dX7_carryAll_240 : decode cX7_carryAll 240 = .ok (.invokevirtual 281, 3) := by decide +kernel
theorem dX7_carryAll_243 : decode cX7_carryAll 243 = .ok (.iastore, 1) := by decide +kernel
theorem dX7_carryAll_244 : decode cX7_carryAll 244 = .ok (.iinc 2 1, 3) := by decide +kernel
theorem dX7_carryAll_247 : decode cX7_carryAll 247 = .ok (.goto (-57), 3) := by decide +kernel
theorem dX7_carryAll_250 : decode cX7_carryAll 250 = .ok (.return_, 1) := by decide +kernel
theorem dX7_image_0 : decode cX7_image 0 = .ok (.aload_n 0, 1) := by decide +kernel
theorem dX7_image_1 : decode cX7_image 1 = .ok (.iconst 0, 1) := by decide +kernel
theorem dX7_image_2 : decode cX7_image 2 = .ok (.putfield 75, 3) := by decide +kernel
theorem dX7_image_5 : decode cX7_image 5 = .ok (.aload_n 0, 1) := by decide +kernel
theorem dX7_image_6 : decode cX7_image 6 = .ok (.iconst 1, 1) := by decide +kernel
theorem dX7_image_7 : decode cX7_image 7 = .ok (.putfield 284, 3) := by decide +kernel
theorem dX7_image_10 : decode cX7_image 10 = .ok (.aload_n 0, 1) := by decide +kernel
theorem dX7_image_11 : decode cX7_image 11 = .ok (.iconst 1, 1) := by decide +kernel
theorem dX7_image_12 : decode cX7_image 12 = .ok (.invokevirtual 287, 3) := by decide +kernel
theorem dX7_image_15 : decode cX7_image 15 = .ok (.aload_n 0, 1) := by decide +kernel
theorem dX7_image_16 : decode cX7_image 16 = .ok (.getfield 89, 3) := by decide +kernel
theorem dX7_image_19 : decode cX7_image 19 = .ok (.ireturn, 1) := by decide +kernel
theorem dX7_undo_0 : decode cX7_undo 0 = .ok (.aload_n 0, 1) := by decide +kernel
theorem dX7_undo_1 : decode cX7_undo 1 = .ok (.iconst 0, 1) := by decide +kernel
theorem dX7_undo_2 : decode cX7_undo 2 = .ok (.putfield 75, 3) := by decide +kernel
theorem dX7_undo_5 : decode cX7_undo 5 = .ok (.aload_n 0, 1) := by decide +kernel
theorem dX7_undo_6 : decode cX7_undo 6 = .ok (.getfield 284, 3) := by decide +kernel
theorem dX7_undo_9 : decode cX7_undo 9 = .ok (.ifCond .ne 6, 3) := by decide +kernel
theorem dX7_undo_12 : decode cX7_undo 12 = .ok (.bipush (-3), 2) := by decide +kernel
theorem dX7_undo_14 : decode cX7_undo 14 = .ok (.ireturn, 1) := by decide +kernel
theorem dX7_undo_15 : decode cX7_undo 15 = .ok (.aload_n 0, 1) := by decide +kernel
theorem dX7_undo_16 : decode cX7_undo 16 = .ok (.iconst 0, 1) := by decide +kernel
theorem dX7_undo_17 : decode cX7_undo 17 = .ok (.invokevirtual 287, 3) := by decide +kernel
theorem dX7_undo_20 : decode cX7_undo 20 = .ok (.aload_n 0, 1) := by decide +kernel
theorem dX7_undo_21 : decode cX7_undo 21 = .ok (.getfield 89, 3) := by decide +kernel
theorem dX7_undo_24 : decode cX7_undo 24 = .ok (.ireturn, 1) := by decide +kernel
