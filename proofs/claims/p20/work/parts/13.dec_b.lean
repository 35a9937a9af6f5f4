theorem dX5_init_0 : decode cX5_init 0 = .ok (.aload_n 0, 1) := by decide +kernel
theorem dX5_init_1 : decode cX5_init 1 = .ok (.invokespecial 3, 3) := by decide +kernel
theorem dX5_init_4 : decode cX5_init 4 = .ok (.aload_n 0, 1) := by decide +kernel
theorem dX5_init_5 : decode cX5_init 5 = .ok (.aload_n 1, 1) := by decide +kernel
theorem dX5_init_6 : decode cX5_init 6 = .ok (.putfield 9, 3) := by decide +kernel
theorem dX5_init_9 : decode cX5_init 9 = .ok (.aload_n 0, 1) := by decide +kernel
theorem dX5_init_10 : decode cX5_init 10 = .ok (.bipush 6, 2) := by decide +kernel
theorem dX5_init_12 : decode cX5_init 12 = .ok (.newarray .int, 2) := by decide +kernel
theorem dX5_init_14 : decode cX5_init 14 = .ok (.putfield 15, 3) := by decide +kernel
theorem dX5_init_17 : decode cX5_init 17 = .ok (.aload_n 0, 1) := by decide +kernel
theorem dX5_init_18 : decode cX5_init 18 = .ok (.bipush 7, 2) := by decide +kernel
theorem dX5_init_20 : decode cX5_init 20 = .ok (.newarray .int, 2) := by decide +kernel
theorem dX5_init_22 : decode cX5_init 22 = .ok (.putfield 19, 3) := by decide +kernel
theorem dX5_init_25 : decode cX5_init 25 = .ok (.aload_n 0, 1) := by decide +kernel
theorem dX5_init_26 : decode cX5_init 26 = .ok (.new 22, 3) := by decide +kernel
theorem dX5_init_29 : decode cX5_init 29 = .ok (.dup, 1) := by decide +kernel
theorem dX5_init_30 : decode cX5_init 30 = .ok (.invokespecial 24, 3) := by decide +kernel
theorem dX5_init_33 : decode cX5_init 33 = .ok (.putfield 25, 3) := by decide +kernel
theorem dX5_init_36 : decode cX5_init 36 = .ok (.return_, 1) := by decide +kernel
theorem dX5_readProgram_0 : decode cX5_readProgram 0 = .ok (.aload_n 0, 1) := by decide +kernel
theorem dX5_readProgram_1 : decode cX5_readProgram 1 = .ok (.getfield 25, 3) := by decide +kernel
theorem dX5_readProgram_4 : decode cX5_readProgram 4 = .ok (.invokevirtual 29, 3) := by decide +kernel
theorem dX5_readProgram_7 : decode cX5_readProgram 7 = .ok (.aload_n 0, 1) := by decide +kernel
theorem dX5_readProgram_8 : decode cX5_readProgram 8 = .ok (.iconst 0, 1) := by decide +kernel
theorem dX5_readProgram_9 : decode cX5_readProgram 9 = .ok (.putfield 32, 3) := by decide +kernel
theorem dX5_readProgram_12 : decode cX5_readProgram 12 = .ok (.aload_n 0, 1) := by decide +kernel
theorem dX5_readProgram_13 : decode cX5_readProgram 13 = .ok (.iconst 0, 1) := by decide +kernel
theorem dX5_readProgram_14 : decode cX5_readProgram 14 = .ok (.putfield 36, 3) := by decide +kernel
theorem dX5_readProgram_17 : decode cX5_readProgram 17 = .ok (.aload_n 0, 1) := by decide +kernel
theorem dX5_readProgram_18 : decode cX5_readProgram 18 = .ok (.iconst 1, 1) := by decide +kernel
theorem dX5_readProgram_19 : decode cX5_readProgram 19 = .ok (.putfield 39, 3) := by decide +kernel
theorem dX5_readProgram_22 : decode cX5_readProgram 22 = .ok (.aload_n 0, 1) := by decide +kernel
theorem dX5_readProgram_23 : decode cX5_readProgram 23 = .ok (.iconst 0, 1) := by decide +kernel
theorem dX5_readProgram_24 : decode cX5_readProgram 24 = .ok (.putfield 43, 3) := by decide +kernel
theorem dX5_readProgram_27 : decode cX5_readProgram 27 = .ok (.aload_n 0, 1) := by decide +kernel
theorem dX5_readProgram_28 : decode cX5_readProgram 28 = .ok (.iconst (-1), 1) := by decide +kernel
theorem dX5_readProgram_29 : decode cX5_readProgram 29 = .ok (.invokevirtual 46, 3) := by decide +kernel
theorem dX5_readProgram_32 : decode cX5_readProgram 32 = .ok (.iconst 0, 1) := by decide +kernel
theorem dX5_readProgram_33 : decode cX5_readProgram 33 = .ok (.istore_n 1, 1) := by decide +kernel
theorem dX5_readProgram_34 : decode cX5_readProgram 34 = .ok (.iload_n 1, 1) := by decide +kernel
theorem dX5_readProgram_35 : decode cX5_readProgram 35 = .ok (.sipush 150, 3) := by decide +kernel
theorem dX5_readProgram_38 : decode cX5_readProgram 38 = .ok (.if_icmp .gt 44, 3) := by decide +kernel
theorem dX5_readProgram_41 : decode cX5_readProgram 41 = .ok (.aload_n 0, 1) := by decide +kernel
theorem dX5_readProgram_42 : decode cX5_readProgram 42 = .ok (.getfield 43, 3) := by decide +kernel
theorem dX5_readProgram_45 : decode cX5_readProgram 45 = .ok (.ifCond .ne 37, 3) := by decide +kernel
theorem dX5_readProgram_48 : decode cX5_readProgram 48 = .ok (.aload_n 0, 1) := by decide +kernel
theorem dX5_readProgram_49 : decode cX5_readProgram 49 = .ok (.getfield 39, 3) := by decide +kernel
theorem dX5_readProgram_52 : decode cX5_readProgram 52 = .ok (.ifCond .eq 10, 3) := by decide +kernel
theorem dX5_readProgram_55 : decode cX5_readProgram 55 = .ok (.aload_n 0, 1) := by decide +kernel
theorem dX5_readProgram_56 : decode cX5_readProgram 56 = .ok (.invokevirtual 50, 3) := by decide +kernel
theorem dX5_readProgram_59 : decode cX5_readProgram 59 = .ok (.goto 7, 3) := by decide +kernel
theorem dX5_readProgram_62 : decode cX5_readProgram 62 = .ok (.aload_n 0, 1) := by decide +kernel
theorem dX5_readProgram_63 : decode cX5_readProgram 63 = .ok (.invokevirtual 54, 3) := by decide +kernel
theorem dX5_readProgram_66 : decode cX5_readProgram 66 = .ok (.istore_n 2, 1) := by decide +kernel
theorem dX5_readProgram_67 : decode cX5_readProgram 67 = .ok (.iload_n 2, 1) := by decide +kernel
theorem dX5_readProgram_68 : decode cX5_readProgram 68 = .ok (.ifCond .ne 8, 3) := by decide +kernel
theorem dX5_readProgram_71 : decode cX5_readProgram 71 = .ok (.aload_n 0, 1) := by decide +kernel
theorem dX5_readProgram_72 : decode cX5_readProgram 72 = .ok (.getfield 32, 3) := by decide +kernel
theorem dX5_readProgram_75 : decode cX5_readProgram 75 = .ok (.ireturn, 1) := by decide +kernel
theorem dX5_readProgram_76 : decode cX5_readProgram 76 = .ok (.iinc 1 1, 3) := by decide +kernel
theorem dX5_readProgram_79 : decode cX5_readProgram 79 = .ok (.goto (-45), 3) := by decide +kernel
theorem dX5_readProgram_82 : decode cX5_readProgram 82 = .ok (.aload_n 0, 1) := by decide +kernel
theorem dX5_readProgram_83 : decode cX5_readProgram 83 = .ok (.getfield 43, 3) := by decide +kernel
theorem dX5_readProgram_86 : decode cX5_readProgram 86 = .ok (.ifCond .eq 7, 3) := by decide +kernel
theorem dX5_readProgram_89 : decode cX5_readProgram 89 = .ok (.iconst (-1), 1) := by decide +kernel
theorem dX5_readProgram_90 : decode cX5_readProgram 90 = .ok (.goto 7, 3) := by decide +kernel
theorem dX5_readProgram_93 : decode cX5_readProgram 93 = .ok (.aload_n 0, 1) := by decide +kernel
theorem dX5_readProgram_94 : decode cX5_readProgram 94 = .ok (.getfield 32, 3) := by decide +kernel
theorem dX5_readProgram_97 : decode cX5_readProgram 97 = .ok (.ireturn, 1) := by decide +kernel
theorem dX5_readCost_0 : decode cX5_readCost 0 = .ok (.aload_n 0, 1) := by decide +kernel
theorem dX5_readCost_1 : decode cX5_readCost 1 = .ok (.getfield 25, 3) := by decide +kernel
theorem dX5_readCost_4 : decode cX5_readCost 4 = .ok (.invokevirtual 29, 3) := by decide +kernel
theorem dX5_readCost_7 : decode cX5_readCost 7 = .ok (.aload_n 0, 1) := by decide +kernel
theorem dX5_readCost_8 : decode cX5_readCost 8 = .ok (.iconst 0, 1) := by decide +kernel
theorem dX5_readCost_9 : decode cX5_readCost 9 = .ok (.putfield 32, 3) := by decide +kernel
theorem dX5_readCost_12 : decode cX5_readCost 12 = .ok (.aload_n 0, 1) := by decide +kernel
theorem dX5_readCost_13 : decode cX5_readCost 13 = .ok (.aload_n 0, 1) := by decide +kernel
theorem dX5_readCost_14 : decode cX5_readCost 14 = .ok (.getfield 25, 3) := by decide +kernel
theorem dX5_readCost_17 : decode cX5_readCost 17 = .ok (.getfield 57, 3) := by decide +kernel
theorem dX5_readCost_20 : decode cX5_readCost 20 = .ok (.invokevirtual 61, 3) := by decide +kernel
theorem dX5_readCost_23 : decode cX5_readCost 23 = .ok (.istore_n 1, 1) := by decide +kernel
theorem dX5_readCost_24 : decode cX5_readCost 24 = .ok (.iload_n 1, 1) := by decide +kernel
theorem dX5_readCost_25 : decode cX5_readCost 25 = .ok (.ifCond .eq 21, 3) := by decide +kernel
theorem dX5_readCost_28 : decode cX5_readCost 28 = .ok (.aload_n 0, 1) := by decide +kernel
theorem dX5_readCost_29 : decode cX5_readCost 29 = .ok (.getfield 32, 3) := by decide +kernel
theorem dX5_readCost_32 : decode cX5_readCost 32 = .ok (.aload_n 0, 1) := by decide +kernel
theorem dX5_readCost_33 : decode cX5_readCost 33 = .ok (.getfield 9, 3) := by decide +kernel
theorem dX5_readCost_36 : decode cX5_readCost 36 = .ok (.getfield 65, 3) := by decide +kernel
theorem dX5_readCost_39 : decode cX5_readCost 39 = .ok (.if_icmp .ne 7, 3) := by decide +kernel
theorem dX5_readCost_42 : decode cX5_readCost 42 = .ok (.iconst (-1), 1) := by decide +kernel
theorem dX5_readCost_43 : decode cX5_readCost 43 = .ok (.goto 7, 3) := by decide +kernel
theorem dX5_readCost_46 : decode cX5_readCost 46 = .ok (.aload_n 0, 1) := by decide +kernel
theorem dX5_readCost_47 : decode cX5_readCost 47 = .ok (.getfield 32, 3) := by decide +kernel
theorem dX5_readCost_50 : decode cX5_readCost 50 = .ok (.ireturn, 1) := by decide +kernel
theorem dX5_readStatement_0 : decode cX5_readStatement 0 = .ok (.aload_n 0, 1) := by decide +kernel
theorem dX5_readStatement_1 : decode cX5_readStatement 1 = .ok (.getfield 25, 3) := by decide +kernel
theorem dX5_readStatement_4 : decode cX5_readStatement 4 = .ok (.getfield 70, 3) := by decide +kernel
theorem dX5_readStatement_7 : decode cX5_readStatement 7 = .ok (.bipush 40, 2) := by decide +kernel
theorem dX5_readStatement_9 : decode cX5_readStatement 9 = .ok (.if_icmp .lt 5, 3) := by decide +kernel
theorem dX5_readStatement_12 : decode cX5_readStatement 12 = .ok (.iconst 0, 1) := by decide +kernel
theorem dX5_readStatement_13 : decode cX5_readStatement 13 = .ok (.ireturn, 1) := by decide +kernel
theorem dX5_readStatement_14 : decode cX5_readStatement 14 = .ok (.aload_n 0, 1) := by decide +kernel
theorem dX5_readStatement_15 : decode cX5_readStatement 15 = .ok (.getfield 9, 3) := by decide +kernel
theorem dX5_readStatement_18 : decode cX5_readStatement 18 = .ok (.aload_n 0, 1) := by decide +kernel
theorem dX5_readStatement_19 : decode cX5_readStatement 19 = .ok (.getfield 32, 3) := by decide +kernel
theorem dX5_readStatement_22 : decode cX5_readStatement 22 = .ok (.invokevirtual 71, 3) := by decide +kernel
theorem dX5_readStatement_25 : decode cX5_readStatement 25 = .ok (.istore_n 1, 1) := by decide +kernel
theorem dX5_readStatement_26 : decode cX5_readStatement 26 = .ok (.aload_n 0, 1) := by decide +kernel
theorem dX5_readStatement_27 : decode cX5_readStatement 27 = .ok (.getfield 9, 3) := by decide +kernel
theorem dX5_readStatement_30 : decode cX5_readStatement 30 = .ok (.aload_n 0, 1) := by decide +kernel
theorem dX5_readStatement_31 : decode cX5_readStatement 31 = .ok (.getfield 32, 3) := by decide +kernel
theorem dX5_readStatement_34 : decode cX5_readStatement 34 = .ok (.iconst 1, 1) := by decide +kernel
theorem dX5_readStatement_35 : decode cX5_readStatement 35 = .ok (.iadd, 1) := by decide +kernel
theorem dX5_readStatement_36 : decode cX5_readStatement 36 = .ok (.invokevirtual 71, 3) := by decide +kernel
theorem dX5_readStatement_39 : decode cX5_readStatement 39 = .ok (.istore_n 2, 1) := by decide +kernel
theorem dX5_readStatement_40 : decode cX5_readStatement 40 = .ok (.iload_n 1, 1) := by decide +kernel
theorem dX5_readStatement_41 : decode cX5_readStatement 41 = .ok (.bipush 40, 2) := by decide +kernel
theorem dX5_readStatement_43 : decode cX5_readStatement 43 = .ok (.if_icmp .ne 14, 3) := by decide +kernel
theorem dX5_readStatement_46 : decode cX5_readStatement 46 = .ok (.aload_n 0, 1) := by decide +kernel
theorem dX5_readStatement_47 : decode cX5_readStatement 47 = .ok (.aload_n 0, 1) := by decide +kernel
theorem dX5_readStatement_48 : decode cX5_readStatement 48 = .ok (.iconst 5, 1) := by decide +kernel
theorem dX5_readStatement_49 : decode cX5_readStatement 49 = .ok (.iconst 0, 1) := by decide +kernel
theorem dX5_readStatement_50 : decode cX5_readStatement 50 = .ok (.invokevirtual 75, 3) := by decide +kernel
theorem dX5_readStatement_53 : decode cX5_readStatement 53 = .ok (.invokevirtual 79, 3) := by decide +kernel
theorem dX5_readStatement_56 : decode cX5_readStatement 56 = .ok (.ireturn, 1) := by decide +kernel
theorem dX5_readStatement_57 : decode cX5_readStatement 57 = .ok (.iload_n 1, 1) := by decide +kernel
theorem dX5_readStatement_58 : decode cX5_readStatement 58 = .ok (.bipush 91, 2) := by decide +kernel
theorem dX5_readStatement_60 : decode cX5_readStatement 60 = .ok (.if_icmp .ne 15, 3) := by decide +kernel
theorem dX5_readStatement_63 : decode cX5_readStatement 63 = .ok (.aload_n 0, 1) := by decide +kernel
theorem dX5_readStatement_64 : decode cX5_readStatement 64 = .ok (.aload_n 0, 1) := by decide +kernel
theorem dX5_readStatement_65 : decode cX5_readStatement 65 = .ok (.bipush 6, 2) := by decide +kernel
theorem dX5_readStatement_67 : decode cX5_readStatement 67 = .ok (.iconst 0, 1) := by decide +kernel
theorem dX5_readStatement_68 : decode cX5_readStatement 68 = .ok (.invokevirtual 75, 3) := by decide +kernel
theorem dX5_readStatement_71 : decode cX5_readStatement 71 = .ok (.invokevirtual 79, 3) := by decide +kernel
theorem dX5_readStatement_74 : decode cX5_readStatement 74 = .ok (.ireturn, 1) := by decide +kernel
theorem dX5_readStatement_75 : decode cX5_readStatement 75 = .ok (.iload_n 1, 1) := by decide +kernel
theorem dX5_readStatement_76 : decode cX5_readStatement 76 = .ok (.bipush 126, 2) := by decide +kernel
theorem dX5_readStatement_78 : decode cX5_readStatement 78 = .ok (.if_icmp .ne 49, 3) := by decide +kernel
theorem dX5_readStatement_81 : decode cX5_readStatement 81 = .ok (.aload_n 0, 1) := by decide +kernel
theorem dX5_readStatement_82 : decode cX5_readStatement 82 = .ok (.dup, 1) := by decide +kernel
theorem dX5_readStatement_83 : decode cX5_readStatement 83 = .ok (.getfield 32, 3) := by decide +kernel
theorem dX5_readStatement_86 : decode cX5_readStatement 86 = .ok (.iconst 1, 1) := by decide +kernel
theorem dX5_readStatement_87 : decode cX5_readStatement 87 = .ok (.iadd, 1) := by decide +kernel
theorem dX5_readStatement_88 : decode cX5_readStatement 88 = .ok (.putfield 32, 3) := by decide +kernel
theorem dX5_readStatement_91 : decode cX5_readStatement 91 = .ok (.aload_n 0, 1) := by decide +kernel
theorem dX5_readStatement_92 : decode cX5_readStatement 92 = .ok (.getfield 9, 3) := by decide +kernel
theorem dX5_readStatement_95 : decode cX5_readStatement 95 = .ok (.aload_n 0, 1) := by decide +kernel
theorem dX5_readStatement_96 : decode cX5_readStatement 96 = .ok (.getfield 32, 3) := by decide +kernel
theorem dX5_readStatement_99 : decode cX5_readStatement 99 = .ok (.invokevirtual 71, 3) := by decide +kernel
theorem dX5_readStatement_102 : decode cX5_readStatement 102 = .ok (.bipush 91, 2) := by decide +kernel
theorem dX5_readStatement_104 : decode cX5_readStatement 104 = .ok (.if_icmp .ne 21, 3) := by decide +kernel
theorem dX5_readStatement_107 : decode cX5_readStatement 107 = .ok (.aload_n 0, 1) := by decide +kernel
theorem dX5_readStatement_108 : decode cX5_readStatement 108 = .ok (.aload_n 0, 1) := by decide +kernel
theorem dX5_readStatement_109 : decode cX5_readStatement 109 = .ok (.bipush 7, 2) := by decide +kernel
theorem dX5_readStatement_111 : decode cX5_readStatement 111 = .ok (.iconst 0, 1) := by decide +kernel
theorem dX5_readStatement_112 : decode cX5_readStatement 112 = .ok (.invokevirtual 75, 3) := by decide +kernel
theorem dX5_readStatement_115 : decode cX5_readStatement 115 = .ok (.invokevirtual 79, 3) := by decide +kernel
theorem dX5_readStatement_118 : decode cX5_readStatement 118 = .ok (.ifCond .eq 7, 3) := by decide +kernel
theorem dX5_readStatement_121 : decode cX5_readStatement 121 = .ok (.iconst 1, 1) := by decide +kernel
theorem dX5_readStatement_122 : decode cX5_readStatement 122 = .ok (.goto 4, 3) := by decide +kernel
theorem dX5_readStatement_125 : decode cX5_readStatement 125 = .ok (.iconst 0, 1) := by decide +kernel
theorem dX5_readStatement_126 : decode cX5_readStatement 126 = .ok (.ireturn, 1) := by decide +kernel
theorem dX5_readStatement_127 : decode cX5_readStatement 127 = .ok (.iload_n 1, 1) := by decide +kernel
theorem dX5_readStatement_128 : decode cX5_readStatement 128 = .ok (.bipush 33, 2) := by decide +kernel
theorem dX5_readStatement_130 : decode cX5_readStatement 130 = .ok (.if_icmp .ne 23, 3) := by decide +kernel
theorem dX5_readStatement_133 : decode cX5_readStatement 133 = .ok (.aload_n 0, 1) := by decide +kernel
theorem dX5_readStatement_134 : decode cX5_readStatement 134 = .ok (.bipush 8, 2) := by decide +kernel
theorem dX5_readStatement_136 : decode cX5_readStatement 136 = .ok (.iconst 0, 1) := by decide +kernel
theorem dX5_readStatement_137 : decode cX5_readStatement 137 = .ok (.invokevirtual 75, 3) := by decide +kernel
theorem dX5_readStatement_140 : decode cX5_readStatement 140 = .ok (.pop, 1) := by decide +kernel
theorem dX5_readStatement_141 : decode cX5_readStatement 141 = .ok (.aload_n 0, 1) := by decide +kernel
theorem dX5_readStatement_142 : decode cX5_readStatement 142 = .ok (.dup, 1) := by decide +kernel
theorem dX5_readStatement_143 : decode cX5_readStatement 143 = .ok (.getfield 32, 3) := by decide +kernel
theorem dX5_readStatement_146 : decode cX5_readStatement 146 = .ok (.iconst 1, 1) := by decide +kernel
theorem dX5_readStatement_147 : decode cX5_readStatement 147 = .ok (.iadd, 1) := by decide +kernel
theorem dX5_readStatement_148 : decode cX5_readStatement 148 = .ok (.putfield 32, 3) := by decide +kernel
theorem dX5_readStatement_151 : decode cX5_readStatement 151 = .ok (.iconst 1, 1) := by decide +kernel
theorem dX5_readStatement_152 : decode cX5_readStatement 152 = .ok (.ireturn, 1) := by decide +kernel
theorem dX5_readStatement_153 : decode cX5_readStatement 153 = .ok (.iload_n 1, 1) := by decide +kernel
theorem dX5_readStatement_154 : decode cX5_readStatement 154 = .ok (.bipush 49, 2) := by decide +kernel
theorem dX5_readStatement_156 : decode cX5_readStatement 156 = .ok (.if_icmp .lt 58, 3) := by decide +kernel
theorem dX5_readStatement_159 : decode cX5_readStatement 159 = .ok (.iload_n 1, 1) := by decide +kernel
theorem dX5_readStatement_160 : decode cX5_readStatement 160 = .ok (.bipush 57, 2) := by decide +kernel
theorem dX5_readStatement_162 : decode cX5_readStatement 162 = .ok (.if_icmp .gt 52, 3) := by decide +kernel
theorem dX5_readStatement_165 : decode cX5_readStatement 165 = .ok (.iload_n 2, 1) := by decide +kernel
theorem dX5_readStatement_166 : decode cX5_readStatement 166 = .ok (.bipush 42, 2) := by decide +kernel
theorem dX5_readStatement_168 : decode cX5_readStatement 168 = .ok (.if_icmp .ne 46, 3) := by decide +kernel
theorem dX5_readStatement_171 : decode cX5_readStatement 171 = .ok (.aload_n 0, 1) := by decide +kernel
theorem dX5_readStatement_172 : decode cX5_readStatement 172 = .ok (.getfield 9, 3) := by decide +kernel
theorem dX5_readStatement_175 : decode cX5_readStatement 175 = .ok (.aload_n 0, 1) := by decide +kernel
theorem dX5_readStatement_176 : decode cX5_readStatement 176 = .ok (.getfield 32, 3) := by decide +kernel
theorem dX5_readStatement_179 : decode cX5_readStatement 179 = .ok (.iconst 2, 1) := by decide +kernel
theorem dX5_readStatement_180 : decode cX5_readStatement 180 = .ok (.iadd, 1) := by decide +kernel
theorem dX5_readStatement_181 : decode cX5_readStatement 181 = .ok (.invokevirtual 71, 3) := by decide +kernel
theorem dX5_readStatement_184 : decode cX5_readStatement 184 = .ok (.bipush 40, 2) := by decide +kernel
theorem dX5_readStatement_186 : decode cX5_readStatement 186 = .ok (.if_icmp .ne 28, 3) := by decide +kernel
theorem dX5_readStatement_189 : decode cX5_readStatement 189 = .ok (.aload_n 0, 1) := by decide +kernel
theorem dX5_readStatement_190 : decode cX5_readStatement 190 = .ok (.dup, 1) := by decide +kernel
theorem dX5_readStatement_191 : decode cX5_readStatement 191 = .ok (.getfield 32, 3) := by decide +kernel
theorem dX5_readStatement_194 : decode cX5_readStatement 194 = .ok (.iconst 2, 1) := by decide +kernel
theorem dX5_readStatement_195 : decode cX5_readStatement 195 = .ok (.iadd, 1) := by decide +kernel
theorem dX5_readStatement_196 : decode cX5_readStatement 196 = .ok (.putfield 32, 3) := by decide +kernel
theorem dX5_readStatement_199 : decode cX5_readStatement 199 = .ok (.aload_n 0, 1) := by decide +kernel
theorem dX5_readStatement_200 : decode cX5_readStatement 200 = .ok (.aload_n 0, 1) := by decide +kernel
theorem dX5_readStatement_201 : decode cX5_readStatement 201 = .ok (.bipush 9, 2) := by decide +kernel
theorem dX5_readStatement_203 : decode cX5_readStatement 203 = .ok (.iload_n 1, 1) := by decide +kernel
theorem dX5_readStatement_204 : decode cX5_readStatement 204 = .ok (.bipush 48, 2) := by decide +kernel
theorem dX5_readStatement_206 : decode cX5_readStatement 206 = .ok (.isub, 1) := by decide +kernel
theorem dX5_readStatement_207 : decode cX5_readStatement 207 = .ok (.invokevirtual 75, 3) := by decide +kernel
theorem dX5_readStatement_210 : decode cX5_readStatement 210 = .ok (.invokevirtual 79, 3) := by decide +kernel
theorem dX5_readStatement_213 : decode cX5_readStatement 213 = .ok (.ireturn, 1) := by decide +kernel
theorem dX5_readStatement_214 : decode cX5_readStatement 214 = .ok (.iload_n 1, 1) := by decide +kernel
theorem dX5_readStatement_215 : decode cX5_readStatement 215 = .ok (.invokestatic 83, 3) := by decide +kernel
theorem dX5_readStatement_218 : decode cX5_readStatement 218 = .ok (.ifCond .eq 41, 3) := by decide +kernel
theorem dX5_readStatement_221 : decode cX5_readStatement 221 = .ok (.iload_n 2, 1) := by decide +kernel
theorem dX5_readStatement_222 : decode cX5_readStatement 222 = .ok (.bipush 58, 2) := by decide +kernel
theorem dX5_readStatement_224 : decode cX5_readStatement 224 = .ok (.if_icmp .ne 35, 3) := by decide +kernel
theorem dX5_readStatement_227 : decode cX5_readStatement 227 = .ok (.aload_n 0, 1) := by decide +kernel
theorem dX5_readStatement_228 : decode cX5_readStatement 228 = .ok (.dup, 1) := by decide +kernel
theorem dX5_readStatement_229 : decode cX5_readStatement 229 = .ok (.getfield 32, 3) := by decide +kernel
theorem dX5_readStatement_232 : decode cX5_readStatement 232 = .ok (.iconst 2, 1) := by decide +kernel
theorem dX5_readStatement_233 : decode cX5_readStatement 233 = .ok (.iadd, 1) := by decide +kernel
theorem dX5_readStatement_234 : decode cX5_readStatement 234 = .ok (.putfield 32, 3) := by decide +kernel
theorem dX5_readStatement_237 : decode cX5_readStatement 237 = .ok (.aload_n 0, 1) := by decide +kernel
theorem dX5_readStatement_238 : decode cX5_readStatement 238 = .ok (.iconst 1, 1) := by decide +kernel
theorem dX5_readStatement_239 : decode cX5_readStatement 239 = .ok (.iload_n 1, 1) := by decide +kernel
theorem dX5_readStatement_240 : decode cX5_readStatement 240 = .ok (.bipush 97, 2) := by decide +kernel
theorem dX5_readStatement_242 : decode cX5_readStatement 242 = .ok (.isub, 1) := by decide +kernel
theorem dX5_readStatement_243 : decode cX5_readStatement 243 = .ok (.invokevirtual 75, 3) := by decide +kernel
theorem dX5_readStatement_246 : decode cX5_readStatement 246 = .ok (.pop, 1) := by decide +kernel
theorem dX5_readStatement_247 : decode cX5_readStatement 247 = .ok (.aload_n 0, 1) := by decide +kernel
theorem dX5_readStatement_248 : decode cX5_readStatement 248 = .ok (.aload_n 0, 1) := by decide +kernel
theorem dX5_readStatement_249 : decode cX5_readStatement 249 = .ok (.getfield 25, 3) := by decide +kernel
theorem dX5_readStatement_252 : decode cX5_readStatement 252 = .ok (.getfield 86, 3) := by decide +kernel
theorem dX5_readStatement_255 : decode cX5_readStatement 255 = .ok (.invokevirtual 61, 3) := by decide +kernel
theorem dX5_readStatement_258 : decode cX5_readStatement 258 = .ok (.ireturn, 1) := by decide +kernel
theorem dX5_readStatement_259 : decode cX5_readStatement 259 = .ok (.iload_n 1, 1) := by decide +kernel
theorem dX5_readStatement_260 : decode cX5_readStatement 260 = .ok (.invokestatic 83, 3) := by decide +kernel
theorem dX5_readStatement_263 : decode cX5_readStatement 263 = .ok (.ifCond .eq 28, 3) := by decide +kernel
theorem dX5_readStatement_266 : decode cX5_readStatement 266 = .ok (.iload_n 2, 1) := by decide +kernel
theorem dX5_readStatement_267 : decode cX5_readStatement 267 = .ok (.bipush 63, 2) := by decide +kernel
theorem dX5_readStatement_269 : decode cX5_readStatement 269 = .ok (.if_icmp .ne 22, 3) := by decide +kernel
theorem dX5_readStatement_272 : decode cX5_readStatement 272 = .ok (.aload_n 0, 1) := by decide +kernel
theorem dX5_readStatement_273 : decode cX5_readStatement 273 = .ok (.dup, 1) := by decide +kernel
theorem dX5_readStatement_274 : decode cX5_readStatement 274 = .ok (.getfield 32, 3) := by decide +kernel
theorem dX5_readStatement_277 : decode cX5_readStatement 277 = .ok (.iconst 2, 1) := by decide +kernel
theorem dX5_readStatement_278 : decode cX5_readStatement 278 = .ok (.iadd, 1) := by decide +kernel
theorem dX5_readStatement_279 : decode cX5_readStatement 279 = .ok (.putfield 32, 3) := by decide +kernel
theorem dX5_readStatement_282 : decode cX5_readStatement 282 = .ok (.aload_n 0, 1) := by decide +kernel
theorem dX5_readStatement_283 : decode cX5_readStatement 283 = .ok (.iload_n 1, 1) := by decide +kernel
theorem dX5_readStatement_284 : decode cX5_readStatement 284 = .ok (.bipush 97, 2) := by decide +kernel
theorem dX5_readStatement_286 : decode cX5_readStatement 286 = .ok (.isub, 1) := by decide +kernel
theorem dX5_readStatement_287 : decode cX5_readStatement 287 = .ok (.invokevirtual 89, 3) := by decide +kernel
theorem dX5_readStatement_290 : decode cX5_readStatement 290 = .ok (.ireturn, 1) := by decide +kernel
theorem dX5_readStatement_291 : decode cX5_readStatement 291 = .ok (.aload_n 0, 1) := by decide +kernel
theorem dX5_readStatement_292 : decode cX5_readStatement 292 = .ok (.invokevirtual 92, 3) := by decide +kernel
theorem dX5_readStatement_295 : decode cX5_readStatement 295 = .ok (.ireturn, 1) := by decide +kernel
theorem dX5_addStatement_0 : decode cX5_addStatement 0 = .ok (.aload_n 0, 1) := by decide +kernel
theorem dX5_addStatement_1 : decode cX5_addStatement 1 = .ok (.getfield 36, 3) := by decide +kernel
theorem dX5_addStatement_4 : decode cX5_addStatement 4 = .ok (.iconst 1, 1) := by decide +kernel
theorem dX5_addStatement_5 : decode cX5_addStatement 5 = .ok (.if_icmp .lt 29, 3) := by decide +kernel
theorem dX5_addStatement_8 : decode cX5_addStatement 8 = .ok (.aload_n 0, 1) := by decide +kernel
theorem dX5_addStatement_9 : decode cX5_addStatement 9 = .ok (.getfield 36, 3) := by decide +kernel
theorem dX5_addStatement_12 : decode cX5_addStatement 12 = .ok (.aload_n 0, 1) := by decide +kernel
theorem dX5_addStatement_13 : decode cX5_addStatement 13 = .ok (.getfield 15, 3) := by decide +kernel
theorem dX5_addStatement_16 : decode cX5_addStatement 16 = .ok (.arraylength, 1) := by decide +kernel
theorem dX5_addStatement_17 : decode cX5_addStatement 17 = .ok (.if_icmp .gt 17, 3) := by decide +kernel
theorem dX5_addStatement_20 : decode cX5_addStatement 20 = .ok (.aload_n 0, 1) := by decide +kernel
theorem dX5_addStatement_21 : decode cX5_addStatement 21 = .ok (.getfield 15, 3) := by decide +kernel
theorem dX5_addStatement_24 : decode cX5_addStatement 24 = .ok (.aload_n 0, 1) := by decide +kernel
theorem dX5_addStatement_25 : decode cX5_addStatement 25 = .ok (.getfield 36, 3) := by decide +kernel
theorem dX5_addStatement_28 : decode cX5_addStatement 28 = .ok (.iconst 1, 1) := by decide +kernel
theorem dX5_addStatement_29 : decode cX5_addStatement 29 = .ok (.isub, 1) := by decide +kernel
theorem dX5_addStatement_30 : decode cX5_addStatement 30 = .ok (.iaload, 1) := by decide +kernel
theorem dX5_addStatement_31 : decode cX5_addStatement 31 = .ok (.goto 4, 3) := by decide +kernel
theorem dX5_addStatement_34 : decode cX5_addStatement 34 = .ok (.iconst (-1), 1) := by decide +kernel
theorem dX5_addStatement_35 : decode cX5_addStatement 35 = .ok (.istore_n 3, 1) := by decide +kernel
theorem dX5_addStatement_36 : decode cX5_addStatement 36 = .ok (.aload_n 0, 1) := by decide +kernel
theorem dX5_addStatement_37 : decode cX5_addStatement 37 = .ok (.getfield 25, 3) := by decide +kernel
theorem dX5_addStatement_40 : decode cX5_addStatement 40 = .ok (.iload_n 1, 1) := by decide +kernel
theorem dX5_addStatement_41 : decode cX5_addStatement 41 = .ok (.iload_n 2, 1) := by decide +kernel
theorem dX5_addStatement_42 : decode cX5_addStatement 42 = .ok (.iload_n 3, 1) := by decide +kernel
theorem dX5_addStatement_43 : decode cX5_addStatement 43 = .ok (.aload_n 0, 1) := by decide +kernel
theorem dX5_addStatement_44 : decode cX5_addStatement 44 = .ok (.getfield 36, 3) := by decide +kernel
theorem dX5_addStatement_47 : decode cX5_addStatement 47 = .ok (.invokevirtual 95, 3) := by decide +kernel
theorem dX5_addStatement_50 : decode cX5_addStatement 50 = .ok (.istore 4, 2) := by decide +kernel
theorem dX5_addStatement_52 : decode cX5_addStatement 52 = .ok (.aload_n 0, 1) := by decide +kernel
theorem dX5_addStatement_53 : decode cX5_addStatement 53 = .ok (.getfield 36, 3) := by decide +kernel
theorem dX5_addStatement_56 : decode cX5_addStatement 56 = .ok (.ifCond .lt 27, 3) := by decide +kernel
theorem dX5_addStatement_59 : decode cX5_addStatement 59 = .ok (.aload_n 0, 1) := by decide +kernel
theorem dX5_addStatement_60 : decode cX5_addStatement 60 = .ok (.getfield 36, 3) := by decide +kernel
theorem dX5_addStatement_63 : decode cX5_addStatement 63 = .ok (.aload_n 0, 1) := by decide +kernel
theorem dX5_addStatement_64 : decode cX5_addStatement 64 = .ok (.getfield 19, 3) := by decide +kernel
theorem dX5_addStatement_67 : decode cX5_addStatement 67 = .ok (.arraylength, 1) := by decide +kernel
theorem dX5_addStatement_68 : decode cX5_addStatement 68 = .ok (.if_icmp .ge 15, 3) := by decide +kernel
theorem dX5_addStatement_71 : decode cX5_addStatement 71 = .ok (.aload_n 0, 1) := by decide +kernel
theorem dX5_addStatement_72 : decode cX5_addStatement 72 = .ok (.getfield 19, 3) := by decide +kernel
theorem dX5_addStatement_75 : decode cX5_addStatement 75 = .ok (.aload_n 0, 1) := by decide +kernel
theorem dX5_addStatement_76 : decode cX5_addStatement 76 = .ok (.getfield 36, 3) := by decide +kernel
theorem dX5_addStatement_79 : decode cX5_addStatement 79 = .ok (.iaload, 1) := by decide +kernel
theorem dX5_addStatement_80 : decode cX5_addStatement 80 = .ok (.goto 4, 3) := by decide +kernel
theorem dX5_addStatement_83 : decode cX5_addStatement 83 = .ok (.iconst (-1), 1) := by decide +kernel
theorem dX5_addStatement_84 : decode cX5_addStatement 84 = .ok (.istore 5, 2) := by decide +kernel
theorem dX5_addStatement_86 : decode cX5_addStatement 86 = .ok (.iload 5, 2) := by decide +kernel
theorem dX5_addStatement_88 : decode cX5_addStatement 88 = .ok (.iconst (-1), 1) := by decide +kernel
theorem dX5_addStatement_89 : decode cX5_addStatement 89 = .ok (.if_icmp .ne 16, 3) := by decide +kernel
theorem dX5_addStatement_92 : decode cX5_addStatement 92 = .ok (.aload_n 0, 1) := by decide +kernel
theorem dX5_addStatement_93 : decode cX5_addStatement 93 = .ok (.getfield 25, 3) := by decide +kernel
theorem dX5_addStatement_96 : decode cX5_addStatement 96 = .ok (.iload_n 3, 1) := by decide +kernel
theorem dX5_addStatement_97 : decode cX5_addStatement 97 = .ok (.iload 4, 2) := by decide +kernel
theorem dX5_addStatement_99 : decode cX5_addStatement 99 = .ok (.invokevirtual 98, 3) := by decide +kernel
theorem dX5_addStatement_102 : decode cX5_addStatement 102 = .ok (.goto 14, 3) := by decide +kernel
theorem dX5_addStatement_105 : decode cX5_addStatement 105 = .ok (.aload_n 0, 1) := by decide +kernel
theorem dX5_addStatement_106 : decode cX5_addStatement 106 = .ok (.getfield 25, 3) := by decide +kernel
theorem dX5_addStatement_109 : decode cX5_addStatement 109 = .ok (.iload 5, 2) := by decide +kernel
theorem dX5_addStatement_111 : decode cX5_addStatement 111 = .ok (.iload 4, 2) := by decide +kernel
theorem dX5_addStatement_113 : decode cX5_addStatement 113 = .ok (.invokevirtual 102, 3) := by decide +kernel
theorem dX5_addStatement_116 : decode cX5_addStatement 116 = .ok (.aload_n 0, 1) := by decide +kernel
theorem dX5_addStatement_117 : decode cX5_addStatement 117 = .ok (.iload 4, 2) := by decide +kernel
theorem dX5_addStatement_119 : decode cX5_addStatement 119 = .ok (.invokevirtual 46, 3) := by decide +kernel
theorem dX5_addStatement_122 : decode cX5_addStatement 122 = .ok (.aload_n 0, 1) := by decide +kernel
theorem dX5_addStatement_123 : decode cX5_addStatement 123 = .ok (.iconst 0, 1) := by decide +kernel
theorem dX5_addStatement_124 : decode cX5_addStatement 124 = .ok (.putfield 39, 3) := by decide +kernel
theorem dX5_addStatement_127 : decode cX5_addStatement 127 = .ok (.iload 4, 2) := by decide +kernel
theorem dX5_addStatement_129 : decode cX5_addStatement 129 = .ok (.ireturn, 1) := by decide +kernel
theorem dX5_setBefore_0 : decode cX5_setBefore 0 = .ok (.aload_n 0, 1) := by decide +kernel
theorem dX5_setBefore_1 : decode cX5_setBefore 1 = .ok (.getfield 36, 3) := by decide +kernel
theorem dX5_setBefore_4 : decode cX5_setBefore 4 = .ok (.ifCond .lt 25, 3) := by decide +kernel
theorem dX5_setBefore_7 : decode cX5_setBefore 7 = .ok (.aload_n 0, 1) := by decide +kernel
theorem dX5_setBefore_8 : decode cX5_setBefore 8 = .ok (.getfield 36, 3) := by decide +kernel
theorem dX5_setBefore_11 : decode cX5_setBefore 11 = .ok (.aload_n 0, 1) := by decide +kernel
theorem dX5_setBefore_12 : decode cX5_setBefore 12 = .ok (.getfield 19, 3) := by decide +kernel
theorem dX5_setBefore_15 : decode cX5_setBefore 15 = .ok (.arraylength, 1) := by decide +kernel
theorem dX5_setBefore_16 : decode cX5_setBefore 16 = .ok (.if_icmp .ge 13, 3) := by decide +kernel
theorem dX5_setBefore_19 : decode cX5_setBefore 19 = .ok (.aload_n 0, 1) := by decide +kernel
theorem dX5_setBefore_20 : decode cX5_setBefore 20 = .ok (.getfield 19, 3) := by decide +kernel
theorem dX5_setBefore_23 : decode cX5_setBefore 23 = .ok (.aload_n 0, 1) := by decide +kernel
theorem dX5_setBefore_24 : decode cX5_setBefore 24 = .ok (.getfield 36, 3) := by decide +kernel
theorem dX5_setBefore_27 : decode cX5_setBefore 27 = .ok (.iload_n 1, 1) := by decide +kernel
theorem dX5_setBefore_28 : decode cX5_setBefore 28 = .ok (.iastore, 1) := by decide +kernel
theorem dX5_setBefore_29 : decode cX5_setBefore 29 = .ok (.return_, 1) := by decide +kernel
theorem dX5_openBracket_0 : decode cX5_openBracket 0 = .ok (.aload_n 0, 1) := by decide +kernel
theorem dX5_openBracket_1 : decode cX5_openBracket 1 = .ok (.getfield 36, 3) := by decide +kernel
theorem dX5_openBracket_4 : decode cX5_openBracket 4 = .ok (.ifCond .lt 15, 3) := by decide +kernel
theorem dX5_openBracket_7 : decode cX5_openBracket 7 = .ok (.aload_n 0, 1) := by decide +kernel
theorem dX5_openBracket_8 : decode cX5_openBracket 8 = .ok (.getfield 36, 3) := by decide +kernel
theorem dX5_openBracket_11 : decode cX5_openBracket 11 = .ok (.aload_n 0, 1) := by decide +kernel
theorem dX5_openBracket_12 : decode cX5_openBracket 12 = .ok (.getfield 15, 3) := by decide +kernel
theorem dX5_openBracket_15 : decode cX5_openBracket 15 = .ok (.arraylength, 1) := by decide +kernel
theorem dX5_openBracket_16 : decode cX5_openBracket 16 = .ok (.if_icmp .lt 5, 3) := by decide +kernel
theorem dX5_openBracket_19 : decode cX5_openBracket 19 = .ok (.iconst 0, 1) := by decide +kernel
theorem dX5_openBracket_20 : decode cX5_openBracket 20 = .ok (.ireturn, 1) := by decide +kernel
theorem dX5_openBracket_21 : decode cX5_openBracket 21 = .ok (.aload_n 0, 1) := by decide +kernel
theorem dX5_openBracket_22 : decode cX5_openBracket 22 = .ok (.getfield 25, 3) := by decide +kernel
theorem dX5_openBracket_25 : decode cX5_openBracket 25 = .ok (.iload_n 1, 1) := by decide +kernel
theorem dX5_openBracket_26 : decode cX5_openBracket 26 = .ok (.invokevirtual 105, 3) := by decide +kernel
theorem dX5_openBracket_29 : decode cX5_openBracket 29 = .ok (.pop, 1) := by decide +kernel
theorem dX5_openBracket_30 : decode cX5_openBracket 30 = .ok (.aload_n 0, 1) := by decide +kernel
theorem dX5_openBracket_31 : decode cX5_openBracket 31 = .ok (.getfield 15, 3) := by decide +kernel
theorem dX5_openBracket_34 : decode cX5_openBracket 34 = .ok (.aload_n 0, 1) := by decide +kernel
theorem dX5_openBracket_35 : decode cX5_openBracket 35 = .ok (.getfield 36, 3) := by decide +kernel
theorem dX5_openBracket_38 : decode cX5_openBracket 38 = .ok (.iload_n 1, 1) := by decide +kernel
theorem dX5_openBracket_39 : decode cX5_openBracket 39 = .ok (.iastore, 1) := by decide +kernel
theorem dX5_openBracket_40 : decode cX5_openBracket 40 = .ok (.aload_n 0, 1) := by decide +kernel
theorem dX5_openBracket_41 : decode cX5_openBracket 41 = .ok (.dup, 1) := by decide +kernel
theorem dX5_openBracket_42 : decode cX5_openBracket 42 = .ok (.getfield 36, 3) := by decide +kernel
theorem dX5_openBracket_45 : decode cX5_openBracket 45 = .ok (.iconst 1, 1) := by decide +kernel
theorem dX5_openBracket_46 : decode cX5_openBracket 46 = .ok (.iadd, 1) := by decide +kernel
theorem dX5_openBracket_47 : decode cX5_openBracket 47 = .ok (.putfield 36, 3) := by decide +kernel
theorem dX5_openBracket_50 : decode cX5_openBracket 50 = .ok (.aload_n 0, 1) := by decide +kernel
theorem dX5_openBracket_51 : decode cX5_openBracket 51 = .ok (.iconst (-1), 1) := by decide +kernel
theorem dX5_openBracket_52 : decode cX5_openBracket 52 = .ok (.invokevirtual 46, 3) := by decide +kernel
theorem dX5_openBracket_55 : decode cX5_openBracket 55 = .ok (.aload_n 0, 1) := by decide +kernel
theorem dX5_openBracket_56 : decode cX5_openBracket 56 = .ok (.dup, 1) := by decide +kernel
theorem dX5_openBracket_57 : decode cX5_openBracket 57 = .ok (.getfield 32, 3) := by decide +kernel
theorem dX5_openBracket_60 : decode cX5_openBracket 60 = .ok (.iconst 1, 1) := by decide +kernel
theorem dX5_openBracket_61 : decode cX5_openBracket 61 = .ok (.iadd, 1) := by decide +kernel
theorem dX5_openBracket_62 : decode cX5_openBracket 62 = .ok (.putfield 32, 3) := by decide +kernel
theorem dX5_openBracket_65 : decode cX5_openBracket 65 = .ok (.aload_n 0, 1) := by decide +kernel
theorem dX5_openBracket_66 : decode cX5_openBracket 66 = .ok (.iconst 1, 1) := by decide +kernel
theorem dX5_openBracket_67 : decode cX5_openBracket 67 = .ok (.putfield 39, 3) := by decide +kernel
theorem dX5_openBracket_70 : decode cX5_openBracket 70 = .ok (.iconst 1, 1) := by decide +kernel
theorem dX5_openBracket_71 : decode cX5_openBracket 71 = .ok (.ireturn, 1) := by decide +kernel
theorem dX5_readChoose_0 : decode cX5_readChoose 0 = .ok (.aload_n 0, 1) := by decide +kernel
theorem dX5_readChoose_1 : decode cX5_readChoose 1 = .ok (.getfield 9, 3) := by decide +kernel
theorem dX5_readChoose_4 : decode cX5_readChoose 4 = .ok (.aload_n 0, 1) := by decide +kernel
theorem dX5_readChoose_5 : decode cX5_readChoose 5 = .ok (.getfield 32, 3) := by decide +kernel
theorem dX5_readChoose_8 : decode cX5_readChoose 8 = .ok (.invokevirtual 71, 3) := by decide +kernel
theorem dX5_readChoose_11 : decode cX5_readChoose 11 = .ok (.bipush 123, 2) := by decide +kernel
theorem dX5_readChoose_13 : decode cX5_readChoose 13 = .ok (.if_icmp .eq 53, 3) := by decide +kernel
theorem dX5_readChoose_16 : decode cX5_readChoose 16 = .ok (.aload_n 0, 1) := by decide +kernel
theorem dX5_readChoose_17 : decode cX5_readChoose 17 = .ok (.iconst 3, 1) := by decide +kernel
theorem dX5_readChoose_18 : decode cX5_readChoose 18 = .ok (.iload_n 1, 1) := by decide +kernel
theorem dX5_readChoose_19 : decode cX5_readChoose 19 = .ok (.invokevirtual 75, 3) := by decide +kernel
theorem dX5_readChoose_22 : decode cX5_readChoose 22 = .ok (.pop, 1) := by decide +kernel
theorem dX5_readChoose_23 : decode cX5_readChoose 23 = .ok (.aload_n 0, 1) := by decide +kernel
theorem dX5_readChoose_24 : decode cX5_readChoose 24 = .ok (.aload_n 0, 1) := by decide +kernel
theorem dX5_readChoose_25 : decode cX5_readChoose 25 = .ok (.getfield 25, 3) := by decide +kernel
theorem dX5_readChoose_28 : decode cX5_readChoose 28 = .ok (.getfield 86, 3) := by decide +kernel
theorem dX5_readChoose_31 : decode cX5_readChoose 31 = .ok (.invokevirtual 61, 3) := by decide +kernel
theorem dX5_readChoose_34 : decode cX5_readChoose 34 = .ok (.ifCond .eq 30, 3) := by decide +kernel
theorem dX5_readChoose_37 : decode cX5_readChoose 37 = .ok (.aload_n 0, 1) := by decide +kernel
theorem dX5_readChoose_38 : decode cX5_readChoose 38 = .ok (.bipush 44, 2) := by decide +kernel
theorem dX5_readChoose_40 : decode cX5_readChoose 40 = .ok (.invokevirtual 108, 3) := by decide +kernel
theorem dX5_readChoose_43 : decode cX5_readChoose 43 = .ok (.ifCond .eq 21, 3) := by decide +kernel
theorem dX5_readChoose_46 : decode cX5_readChoose 46 = .ok (.aload_n 0, 1) := by decide +kernel
theorem dX5_readChoose_47 : decode cX5_readChoose 47 = .ok (.aload_n 0, 1) := by decide +kernel
theorem dX5_readChoose_48 : decode cX5_readChoose 48 = .ok (.getfield 25, 3) := by decide +kernel
theorem dX5_readChoose_51 : decode cX5_readChoose 51 = .ok (.getfield 86, 3) := by decide +kernel
theorem dX5_readChoose_54 : decode cX5_readChoose 54 = .ok (.invokevirtual 61, 3) := by decide +kernel
theorem dX5_readChoose_57 : decode cX5_readChoose 57 = .ok (.ifCond .eq 7, 3) := by decide +kernel
theorem dX5_readChoose_60 : decode cX5_readChoose 60 = .ok (.iconst 1, 1) := by decide +kernel
theorem dX5_readChoose_61 : decode cX5_readChoose 61 = .ok (.goto 4, 3) := by decide +kernel
theorem dX5_readChoose_64 : decode cX5_readChoose 64 = .ok (.iconst 0, 1) := by decide +kernel
theorem dX5_readChoose_65 : decode cX5_readChoose 65 = .ok (.ireturn, 1) := by decide +kernel
theorem dX5_readChoose_66 : decode cX5_readChoose 66 = .ok (.aload_n 0, 1) := by decide +kernel
theorem dX5_readChoose_67 : decode cX5_readChoose 67 = .ok (.iconst 4, 1) := by decide +kernel
theorem dX5_readChoose_68 : decode cX5_readChoose 68 = .ok (.iload_n 1, 1) := by decide +kernel
theorem dX5_readChoose_69 : decode cX5_readChoose 69 = .ok (.invokevirtual 75, 3) := by decide +kernel
theorem dX5_readChoose_72 : decode cX5_readChoose 72 = .ok (.pop, 1) := by decide +kernel
theorem dX5_readChoose_73 : decode cX5_readChoose 73 = .ok (.aload_n 0, 1) := by decide +kernel
theorem dX5_readChoose_74 : decode cX5_readChoose 74 = .ok (.dup, 1) := by decide +kernel
theorem dX5_readChoose_75 : decode cX5_readChoose 75 = .ok (.getfield 32, 3) := by decide +kernel
theorem dX5_readChoose_78 : decode cX5_readChoose 78 = .ok (.iconst 1, 1) := by decide +kernel
theorem dX5_readChoose_79 : decode cX5_readChoose 79 = .ok (.iadd, 1) := by decide +kernel
theorem dX5_readChoose_80 : decode cX5_readChoose 80 = .ok (.putfield 32, 3) := by decide +kernel
theorem dX5_readChoose_83 : decode cX5_readChoose 83 = .ok (.iconst 0, 1) := by decide +kernel
theorem dX5_readChoose_84 : decode cX5_readChoose 84 = .ok (.istore_n 2, 1) := by decide +kernel
theorem dX5_readChoose_85 : decode cX5_readChoose 85 = .ok (.iload_n 2, 1) := by decide +kernel
theorem dX5_readChoose_86 : decode cX5_readChoose 86 = .ok (.bipush 6, 2) := by decide +kernel
theorem dX5_readChoose_88 : decode cX5_readChoose 88 = .ok (.if_icmp .ge 66, 3) := by decide +kernel
theorem dX5_readChoose_91 : decode cX5_readChoose 91 = .ok (.aload_n 0, 1) := by decide +kernel
theorem dX5_readChoose_92 : decode cX5_readChoose 92 = .ok (.aload_n 0, 1) := by decide +kernel
theorem dX5_readChoose_93 : decode cX5_readChoose 93 = .ok (.getfield 25, 3) := by decide +kernel
theorem dX5_readChoose_96 : decode cX5_readChoose 96 = .ok (.getfield 86, 3) := by decide +kernel
theorem dX5_readChoose_99 : decode cX5_readChoose 99 = .ok (.invokevirtual 61, 3) := by decide +kernel
theorem dX5_readChoose_102 : decode cX5_readChoose 102 = .ok (.ifCond .ne 5, 3) := by decide +kernel
theorem dX5_readChoose_105 : decode cX5_readChoose 105 = .ok (.iconst 0, 1) := by decide +kernel
theorem dX5_readChoose_106 : decode cX5_readChoose 106 = .ok (.ireturn, 1) := by decide +kernel
theorem dX5_readChoose_107 : decode cX5_readChoose 107 = .ok (.aload_n 0, 1) := by decide +kernel
theorem dX5_readChoose_108 : decode cX5_readChoose 108 = .ok (.getfield 9, 3) := by decide +kernel
theorem dX5_readChoose_111 : decode cX5_readChoose 111 = .ok (.aload_n 0, 1) := by decide +kernel
theorem dX5_readChoose_112 : decode cX5_readChoose 112 = .ok (.getfield 32, 3) := by decide +kernel
theorem dX5_readChoose_115 : decode cX5_readChoose 115 = .ok (.invokevirtual 71, 3) := by decide +kernel
theorem dX5_readChoose_118 : decode cX5_readChoose 118 = .ok (.bipush 44, 2) := by decide +kernel
theorem dX5_readChoose_120 : decode cX5_readChoose 120 = .ok (.if_icmp .eq 10, 3) := by decide +kernel
theorem dX5_readChoose_123 : decode cX5_readChoose 123 = .ok (.aload_n 0, 1) := by decide +kernel
theorem dX5_readChoose_124 : decode cX5_readChoose 124 = .ok (.bipush 125, 2) := by decide +kernel
theorem dX5_readChoose_126 : decode cX5_readChoose 126 = .ok (.invokevirtual 108, 3) := by decide +kernel
theorem dX5_readChoose_129 : decode cX5_readChoose 129 = .ok (.ireturn, 1) := by decide +kernel
theorem dX5_readChoose_130 : decode cX5_readChoose 130 = .ok (.iload_n 2, 1) := by decide +kernel
theorem dX5_readChoose_131 : decode cX5_readChoose 131 = .ok (.iconst 1, 1) := by decide +kernel
theorem dX5_readChoose_132 : decode cX5_readChoose 132 = .ok (.iadd, 1) := by decide +kernel
theorem dX5_readChoose_133 : decode cX5_readChoose 133 = .ok (.bipush 6, 2) := by decide +kernel
theorem dX5_readChoose_135 : decode cX5_readChoose 135 = .ok (.if_icmp .ge 13, 3) := by decide +kernel
theorem dX5_readChoose_138 : decode cX5_readChoose 138 = .ok (.aload_n 0, 1) := by decide +kernel
theorem dX5_readChoose_139 : decode cX5_readChoose 139 = .ok (.dup, 1) := by decide +kernel
theorem dX5_readChoose_140 : decode cX5_readChoose 140 = .ok (.getfield 32, 3) := by decide +kernel
theorem dX5_readChoose_143 : decode cX5_readChoose 143 = .ok (.iconst 1, 1) := by decide +kernel
theorem dX5_readChoose_144 : decode cX5_readChoose 144 = .ok (.iadd, 1) := by decide +kernel
theorem dX5_readChoose_145 : decode cX5_readChoose 145 = .ok (.putfield 32, 3) := by decide +kernel
theorem dX5_readChoose_148 : decode cX5_readChoose 148 = .ok (.iinc 2 1, 3) := by decide +kernel
theorem dX5_readChoose_151 : decode cX5_readChoose 151 = .ok (.goto (-66), 3) := by decide +kernel
theorem dX5_readChoose_154 : decode cX5_readChoose 154 = .ok (.iconst 0, 1) := by decide +kernel
theorem dX5_readChoose_155 : decode cX5_readChoose 155 = .ok (.ireturn, 1) := by decide +kernel
theorem dX5_readTest_0 : decode cX5_readTest 0 = .ok (.aload_n 0, 1) := by decide +kernel
theorem dX5_readTest_1 : decode cX5_readTest 1 = .ok (.getfield 9, 3) := by decide +kernel
theorem dX5_readTest_4 : decode cX5_readTest 4 = .ok (.aload_n 0, 1) := by decide +kernel
theorem dX5_readTest_5 : decode cX5_readTest 5 = .ok (.getfield 32, 3) := by decide +kernel
theorem dX5_readTest_8 : decode cX5_readTest 8 = .ok (.invokevirtual 71, 3) := by decide +kernel
theorem dX5_readTest_11 : decode cX5_readTest 11 = .ok (.istore_n 1, 1) := by decide +kernel
theorem dX5_readTest_12 : decode cX5_readTest 12 = .ok (.iload_n 1, 1) := by decide +kernel
theorem dX5_readTest_13 : decode cX5_readTest 13 = .ok (.invokestatic 83, 3) := by decide +kernel
theorem dX5_readTest_16 : decode cX5_readTest 16 = .ok (.ifCond .ne 18, 3) := by decide +kernel
theorem dX5_readTest_19 : decode cX5_readTest 19 = .ok (.iload_n 1, 1) := by decide +kernel
theorem dX5_readTest_20 : decode cX5_readTest 20 = .ok (.invokestatic 111, 3) := by decide +kernel
theorem dX5_readTest_23 : decode cX5_readTest 23 = .ok (.ifCond .ne 11, 3) := by decide +kernel
theorem dX5_readTest_26 : decode cX5_readTest 26 = .ok (.iload_n 1, 1) := by decide +kernel
theorem dX5_readTest_27 : decode cX5_readTest 27 = .ok (.bipush 45, 2) := by decide +kernel
theorem dX5_readTest_29 : decode cX5_readTest 29 = .ok (.if_icmp .eq 5, 3) := by decide +kernel
theorem dX5_readTest_32 : decode cX5_readTest 32 = .ok (.iconst 0, 1) := by decide +kernel
theorem dX5_readTest_33 : decode cX5_readTest 33 = .ok (.ireturn, 1) := by decide +kernel
theorem dX5_readTest_34 : decode cX5_readTest 34 = .ok (.aload_n 0, 1) := by decide +kernel
theorem dX5_readTest_35 : decode cX5_readTest 35 = .ok (.iconst 2, 1) := by decide +kernel
theorem dX5_readTest_36 : decode cX5_readTest 36 = .ok (.iconst 0, 1) := by decide +kernel
theorem dX5_readTest_37 : decode cX5_readTest 37 = .ok (.invokevirtual 75, 3) := by decide +kernel
theorem dX5_readTest_40 : decode cX5_readTest 40 = .ok (.istore_n 2, 1) := by decide +kernel
theorem dX5_readTest_41 : decode cX5_readTest 41 = .ok (.aload_n 0, 1) := by decide +kernel
theorem dX5_readTest_42 : decode cX5_readTest 42 = .ok (.aload_n 0, 1) := by decide +kernel
theorem dX5_readTest_43 : decode cX5_readTest 43 = .ok (.getfield 25, 3) := by decide +kernel
theorem dX5_readTest_46 : decode cX5_readTest 46 = .ok (.getfield 86, 3) := by decide +kernel
theorem dX5_readTest_49 : decode cX5_readTest 49 = .ok (.invokevirtual 61, 3) := by decide +kernel
theorem dX5_readTest_52 : decode cX5_readTest 52 = .ok (.ifCond .ne 5, 3) := by decide +kernel
theorem dX5_readTest_55 : decode cX5_readTest 55 = .ok (.iconst 0, 1) := by decide +kernel
theorem dX5_readTest_56 : decode cX5_readTest 56 = .ok (.ireturn, 1) := by decide +kernel
theorem dX5_readTest_57 : decode cX5_readTest 57 = .ok (.aload_n 0, 1) := by decide +kernel
theorem dX5_readTest_58 : decode cX5_readTest 58 = .ok (.getfield 9, 3) := by decide +kernel
theorem dX5_readTest_61 : decode cX5_readTest 61 = .ok (.aload_n 0, 1) := by decide +kernel
theorem dX5_readTest_62 : decode cX5_readTest 62 = .ok (.getfield 32, 3) := by decide +kernel
theorem dX5_readTest_65 : decode cX5_readTest 65 = .ok (.invokevirtual 71, 3) := by decide +kernel
theorem dX5_readTest_68 : decode cX5_readTest 68 = .ok (.istore_n 3, 1) := by decide +kernel
theorem dX5_readTest_69 : decode cX5_readTest 69 = .ok (.iload_n 3, 1) := by decide +kernel
theorem dX5_readTest_70 : decode cX5_readTest 70 = .ok (.bipush 60, 2) := by decide +kernel
theorem dX5_readTest_72 : decode cX5_readTest 72 = .ok (.if_icmp .eq 23, 3) := by decide +kernel
theorem dX5_readTest_75 : decode cX5_readTest 75 = .ok (.iload_n 3, 1) := by decide +kernel
theorem dX5_readTest_76 : decode cX5_readTest 76 = .ok (.bipush 61, 2) := by decide +kernel
theorem dX5_readTest_78 : decode cX5_readTest 78 = .ok (.if_icmp .eq 17, 3) := by decide +kernel
theorem dX5_readTest_81 : decode cX5_readTest 81 = .ok (.iload_n 3, 1) := by decide +kernel
theorem dX5_readTest_82 : decode cX5_readTest 82 = .ok (.bipush 62, 2) := by decide +kernel
theorem dX5_readTest_84 : decode cX5_readTest 84 = .ok (.if_icmp .eq 11, 3) := by decide +kernel
theorem dX5_readTest_87 : decode cX5_readTest 87 = .ok (.iload_n 3, 1) := by decide +kernel
theorem dX5_readTest_88 : decode cX5_readTest 88 = .ok (.bipush 35, 2) := by decide +kernel
theorem dX5_readTest_90 : decode cX5_readTest 90 = .ok (.if_icmp .eq 5, 3) := by decide +kernel
theorem dX5_readTest_93 : decode cX5_readTest 93 = .ok (.iconst 0, 1) := by decide +kernel
theorem dX5_readTest_94 : decode cX5_readTest 94 = .ok (.ireturn, 1) := by decide +kernel
theorem dX5_readTest_95 : decode cX5_readTest 95 = .ok (.aload_n 0, 1) := by decide +kernel
theorem dX5_readTest_96 : decode cX5_readTest 96 = .ok (.getfield 25, 3) := by decide +kernel
theorem dX5_readTest_99 : decode cX5_readTest 99 = .ok (.iload_n 2, 1) := by decide +kernel
theorem dX5_readTest_100 : decode cX5_readTest 100 = .ok (.iload_n 3, 1) := by decide +kernel
theorem dX5_readTest_101 : decode cX5_readTest 101 = .ok (.invokevirtual 114, 3) := by decide +kernel
theorem dX5_readTest_104 : decode cX5_readTest 104 = .ok (.aload_n 0, 1) := by decide +kernel
theorem dX5_readTest_105 : decode cX5_readTest 105 = .ok (.dup, 1) := by decide +kernel
theorem dX5_readTest_106 : decode cX5_readTest 106 = .ok (.getfield 32, 3) := by decide +kernel
theorem dX5_readTest_109 : decode cX5_readTest 109 = .ok (.iconst 1, 1) := by decide +kernel
theorem dX5_readTest_110 : decode cX5_readTest 110 = .ok (.iadd, 1) := by decide +kernel
theorem dX5_readTest_111 : decode cX5_readTest 111 = .ok (.putfield 32, 3) := by decide +kernel
theorem dX5_readTest_114 : decode cX5_readTest 114 = .ok (.aload_n 0, 1) := by decide +kernel
theorem dX5_readTest_115 : decode cX5_readTest 115 = .ok (.aload_n 0, 1) := by decide +kernel
theorem dX5_readTest_116 : decode cX5_readTest 116 = .ok (.getfield 25, 3) := by decide +kernel
theorem dX5_readTest_119 : decode cX5_readTest 119 = .ok (.getfield 86, 3) := by decide +kernel
theorem dX5_readTest_122 : decode cX5_readTest 122 = .ok (.invokevirtual 61, 3) := by decide +kernel
theorem dX5_readTest_125 : decode cX5_readTest 125 = .ok (.ireturn, 1) := by decide +kernel
theorem dX5_readSign_0 : decode cX5_readSign 0 = .ok (.aload_n 0, 1) := by decide +kernel
theorem dX5_readSign_1 : decode cX5_readSign 1 = .ok (.getfield 9, 3) := by decide +kernel
theorem dX5_readSign_4 : decode cX5_readSign 4 = .ok (.aload_n 0, 1) := by decide +kernel
theorem dX5_readSign_5 : decode cX5_readSign 5 = .ok (.getfield 32, 3) := by decide +kernel
theorem dX5_readSign_8 : decode cX5_readSign 8 = .ok (.invokevirtual 71, 3) := by decide +kernel
theorem dX5_readSign_11 : decode cX5_readSign 11 = .ok (.iload_n 1, 1) := by decide +kernel
theorem dX5_readSign_12 : decode cX5_readSign 12 = .ok (.if_icmp .eq 5, 3) := by decide +kernel
theorem dX5_readSign_15 : decode cX5_readSign 15 = .ok (.iconst 0, 1) := by decide +kernel
theorem dX5_readSign_16 : decode cX5_readSign 16 = .ok (.ireturn, 1) := by decide +kernel
theorem dX5_readSign_17 : decode cX5_readSign 17 = .ok (.aload_n 0, 1) := by decide +kernel
theorem dX5_readSign_18 : decode cX5_readSign 18 = .ok (.dup, 1) := by decide +kernel
theorem dX5_readSign_19 : decode cX5_readSign 19 = .ok (.getfield 32, 3) := by decide +kernel
theorem dX5_readSign_22 : decode cX5_readSign 22 = .ok (.iconst 1, 1) := by decide +kernel
theorem dX5_readSign_23 : decode cX5_readSign 23 = .ok (.iadd, 1) := by decide +kernel
theorem dX5_readSign_24 : decode cX5_readSign 24 = .ok (.putfield 32, 3) := by decide +kernel
theorem dX5_readSign_27 : decode cX5_readSign 27 = .ok (.iconst 1, 1) := by decide +kernel
theorem dX5_readSign_28 : decode cX5_readSign 28 = .ok (.ireturn, 1) := by decide +kernel
theorem dX5_readFormula_0 : decode cX5_readFormula 0 = .ok (.aload_n 1, 1) := by decide +kernel
theorem dX5_readFormula_1 : decode cX5_readFormula 1 = .ok (.invokevirtual 117, 3) := by decide +kernel
theorem dX5_readFormula_4 : decode cX5_readFormula 4 = .ok (.iconst 0, 1) := by decide +kernel
theorem dX5_readFormula_5 : decode cX5_readFormula 5 = .ok (.istore_n 2, 1) := by decide +kernel
theorem dX5_readFormula_6 : decode cX5_readFormula 6 = .ok (.iconst 0, 1) := by decide +kernel
theorem dX5_readFormula_7 : decode cX5_readFormula 7 = .ok (.istore_n 3, 1) := by decide +kernel
theorem dX5_readFormula_8 : decode cX5_readFormula 8 = .ok (.iload_n 3, 1) := by decide +kernel
theorem dX5_readFormula_9 : decode cX5_readFormula 9 = .ok (.sipush 150, 3) := by decide +kernel
theorem dX5_readFormula_12 : decode cX5_readFormula 12 = .ok (.if_icmp .gt 51, 3) := by decide +kernel
theorem dX5_readFormula_15 : decode cX5_readFormula 15 = .ok (.aload_n 0, 1) := by decide +kernel
theorem dX5_readFormula_16 : decode cX5_readFormula 16 = .ok (.aload_n 1, 1) := by decide +kernel
theorem dX5_readFormula_17 : decode cX5_readFormula 17 = .ok (.iload_n 2, 1) := by decide +kernel
theorem dX5_readFormula_18 : decode cX5_readFormula 18 = .ok (.invokevirtual 122, 3) := by decide +kernel
theorem dX5_readFormula_21 : decode cX5_readFormula 21 = .ok (.ifCond .ne 5, 3) := by decide +kernel
theorem dX5_readFormula_24 : decode cX5_readFormula 24 = .ok (.iconst 0, 1) := by decide +kernel
theorem dX5_readFormula_25 : decode cX5_readFormula 25 = .ok (.ireturn, 1) := by decide +kernel
theorem dX5_readFormula_26 : decode cX5_readFormula 26 = .ok (.aload_n 0, 1) := by decide +kernel
theorem dX5_readFormula_27 : decode cX5_readFormula 27 = .ok (.getfield 9, 3) := by decide +kernel
theorem dX5_readFormula_30 : decode cX5_readFormula 30 = .ok (.aload_n 0, 1) := by decide +kernel
theorem dX5_readFormula_31 : decode cX5_readFormula 31 = .ok (.getfield 32, 3) := by decide +kernel
theorem dX5_readFormula_34 : decode cX5_readFormula 34 = .ok (.invokevirtual 71, 3) := by decide +kernel
theorem dX5_readFormula_37 : decode cX5_readFormula 37 = .ok (.invokestatic 126, 3) := by decide +kernel
theorem dX5_readFormula_40 : decode cX5_readFormula 40 = .ok (.istore_n 2, 1) := by decide +kernel
theorem dX5_readFormula_41 : decode cX5_readFormula 41 = .ok (.iload_n 2, 1) := by decide +kernel
theorem dX5_readFormula_42 : decode cX5_readFormula 42 = .ok (.ifCond .ne 5, 3) := by decide +kernel
theorem dX5_readFormula_45 : decode cX5_readFormula 45 = .ok (.iconst 1, 1) := by decide +kernel
theorem dX5_readFormula_46 : decode cX5_readFormula 46 = .ok (.ireturn, 1) := by decide +kernel
theorem dX5_readFormula_47 : decode cX5_readFormula 47 = .ok (.aload_n 0, 1) := by decide +kernel
theorem dX5_readFormula_48 : decode cX5_readFormula 48 = .ok (.dup, 1) := by decide +kernel
theorem dX5_readFormula_49 : decode cX5_readFormula 49 = .ok (.getfield 32, 3) := by decide +kernel
theorem dX5_readFormula_52 : decode cX5_readFormula 52 = .ok (.iconst 1, 1) := by decide +kernel
theorem dX5_readFormula_53 : decode cX5_readFormula 53 = .ok (.iadd, 1) := by decide +kernel
theorem dX5_readFormula_54 : decode cX5_readFormula 54 = .ok (.putfield 32, 3) := by decide +kernel
theorem dX5_readFormula_57 : decode cX5_readFormula 57 = .ok (.iinc 3 1, 3) := by decide +kernel
theorem dX5_readFormula_60 : decode cX5_readFormula 60 = .ok (.goto (-52), 3) := by decide +kernel
theorem dX5_readFormula_63 : decode cX5_readFormula 63 = .ok (.iconst 0, 1) := by decide +kernel
theorem dX5_readFormula_64 : decode cX5_readFormula 64 = .ok (.ireturn, 1) := by decide +kernel
theorem dX5_joinOf_0 : decode cX5_joinOf 0 = .ok (.iload_n 0, 1) := by decide +kernel
theorem dX5_joinOf_1 : decode cX5_joinOf 1 = .ok (.bipush 43, 2) := by decide +kernel
theorem dX5_joinOf_3 : decode cX5_joinOf 3 = .ok (.if_icmp .ne 5, 3) := by decide +kernel
theorem dX5_joinOf_6 : decode cX5_joinOf 6 = .ok (.iconst 1, 1) := by decide +kernel
theorem dX5_joinOf_7 : decode cX5_joinOf 7 = .ok (.ireturn, 1) := by decide +kernel
theorem dX5_joinOf_8 : decode cX5_joinOf 8 = .ok (.iload_n 0, 1) := by decide +kernel
theorem dX5_joinOf_9 : decode cX5_joinOf 9 = .ok (.bipush 45, 2) := by decide +kernel
theorem dX5_joinOf_11 : decode cX5_joinOf 11 = .ok (.if_icmp .ne 5, 3) := by decide +kernel
theorem dX5_joinOf_14 : decode cX5_joinOf 14 = .ok (.iconst 2, 1) := by decide +kernel
theorem dX5_joinOf_15 : decode cX5_joinOf 15 = .ok (.ireturn, 1) := by decide +kernel
theorem dX5_joinOf_16 : decode cX5_joinOf 16 = .ok (.iload_n 0, 1) := by decide +kernel
theorem dX5_joinOf_17 : decode cX5_joinOf 17 = .ok (.bipush 42, 2) := by decide +kernel
theorem dX5_joinOf_19 : decode cX5_joinOf 19 = .ok (.if_icmp .ne 7, 3) := by decide +kernel
theorem dX5_joinOf_22 : decode cX5_joinOf 22 = .ok (.iconst 3, 1) := by decide +kernel
theorem dX5_joinOf_23 : decode cX5_joinOf 23 = .ok (.goto 4, 3) := by decide +kernel
theorem dX5_joinOf_26 : decode cX5_joinOf 26 = .ok (.iconst 0, 1) := by decide +kernel
theorem dX5_joinOf_27 : decode cX5_joinOf 27 = .ok (.ireturn, 1) := by decide +kernel
theorem dX5_readFactor_0 : decode cX5_readFactor 0 = .ok (.iconst 0, 1) := by decide +kernel
theorem dX5_readFactor_1 : decode cX5_readFactor 1 = .ok (.istore_n 3, 1) := by decide +kernel
theorem dX5_readFactor_2 : decode cX5_readFactor 2 = .ok (.iconst 0, 1) := by decide +kernel
theorem dX5_readFactor_3 : decode cX5_readFactor 3 = .ok (.istore 4, 2) := by decide +kernel
theorem dX5_readFactor_5 : decode cX5_readFactor 5 = .ok (.iload 4, 2) := by decide +kernel
theorem dX5_readFactor_7 : decode cX5_readFactor 7 = .ok (.sipush 150, 3) := by decide +kernel
theorem dX5_readFactor_10 : decode cX5_readFactor 10 = .ok (.if_icmp .ge 45, 3) := by decide +kernel
theorem dX5_readFactor_13 : decode cX5_readFactor 13 = .ok (.aload_n 0, 1) := by decide +kernel
theorem dX5_readFactor_14 : decode cX5_readFactor 14 = .ok (.getfield 9, 3) := by decide +kernel
theorem dX5_readFactor_17 : decode cX5_readFactor 17 = .ok (.aload_n 0, 1) := by decide +kernel
theorem dX5_readFactor_18 : decode cX5_readFactor 18 = .ok (.getfield 32, 3) := by decide +kernel
theorem dX5_readFactor_21 : decode cX5_readFactor 21 = .ok (.invokevirtual 71, 3) := by decide +kernel
theorem dX5_readFactor_24 : decode cX5_readFactor 24 = .ok (.bipush 45, 2) := by decide +kernel
theorem dX5_readFactor_26 : decode cX5_readFactor 26 = .ok (.if_icmp .ne 29, 3) := by decide +kernel
theorem dX5_readFactor_29 : decode cX5_readFactor 29 = .ok (.iload_n 3, 1) := by decide +kernel
theorem dX5_readFactor_30 : decode cX5_readFactor 30 = .ok (.ifCond .ne 7, 3) := by decide +kernel
theorem dX5_readFactor_33 : decode cX5_readFactor 33 = .ok (.iconst 1, 1) := by decide +kernel
theorem dX5_readFactor_34 : decode cX5_readFactor 34 = .ok (.goto 4, 3) := by decide +kernel
theorem dX5_readFactor_37 : decode cX5_readFactor 37 = .ok (.iconst 0, 1) := by decide +kernel
theorem dX5_readFactor_38 : decode cX5_readFactor 38 = .ok (.istore_n 3, 1) := by decide +kernel
theorem dX5_readFactor_39 : decode cX5_readFactor 39 = .ok (.aload_n 0, 1) := by decide +kernel
theorem dX5_readFactor_40 : decode cX5_readFactor 40 = .ok (.dup, 1) := by decide +kernel
theorem dX5_readFactor_41 : decode cX5_readFactor 41 = .ok (.getfield 32, 3) := by decide +kernel
theorem dX5_readFactor_44 : decode cX5_readFactor 44 = .ok (.iconst 1, 1) := by decide +kernel
theorem dX5_readFactor_45 : decode cX5_readFactor 45 = .ok (.iadd, 1) := by decide +kernel
theorem dX5_readFactor_46 : decode cX5_readFactor 46 = .ok (.putfield 32, 3) := by decide +kernel
theorem dX5_readFactor_49 : decode cX5_readFactor 49 = .ok (.iinc 4 1, 3) := by decide +kernel
theorem dX5_readFactor_52 : decode cX5_readFactor 52 = .ok (.goto (-47), 3) := by decide +kernel
theorem dX5_readFactor_55 : decode cX5_readFactor 55 = .ok (.aload_n 0, 1) := by decide +kernel
theorem dX5_readFactor_56 : decode cX5_readFactor 56 = .ok (.getfield 9, 3) := by decide +kernel
theorem dX5_readFactor_59 : decode cX5_readFactor 59 = .ok (.aload_n 0, 1) := by decide +kernel
theorem dX5_readFactor_60 : decode cX5_readFactor 60 = .ok (.getfield 32, 3) := by decide +kernel
theorem dX5_readFactor_63 : decode cX5_readFactor 63 = .ok (.invokevirtual 71, 3) := by decide +kernel
theorem dX5_readFactor_66 : decode cX5_readFactor 66 = .ok (.istore 4, 2) := by decide +kernel
theorem dX5_readFactor_68 : decode cX5_readFactor 68 = .ok (.iload 4, 2) := by decide +kernel
theorem dX5_readFactor_70 : decode cX5_readFactor 70 = .ok (.invokestatic 83, 3) := by decide +kernel
theorem dX5_readFactor_73 : decode cX5_readFactor 73 = .ok (.ifCond .eq 30, 3) := by decide +kernel
theorem dX5_readFactor_76 : decode cX5_readFactor 76 = .ok (.aload_n 1, 1) := by decide +kernel
theorem dX5_readFactor_77 : decode cX5_readFactor 77 = .ok (.iload_n 2, 1) := by decide +kernel
theorem dX5_readFactor_78 : decode cX5_readFactor 78 = .ok (.sipush 1000, 3) := by decide +kernel
theorem dX5_readFactor_81 : decode cX5_readFactor 81 = .ok (.iload 4, 2) := by decide +kernel
theorem dX5_readFactor_83 : decode cX5_readFactor 83 = .ok (.iadd, 1) := by decide +kernel
theorem dX5_readFactor_84 : decode cX5_readFactor 84 = .ok (.bipush 97, 2) := by decide +kernel
theorem dX5_readFactor_86 : decode cX5_readFactor 86 = .ok (.isub, 1) := by decide +kernel
theorem dX5_readFactor_87 : decode cX5_readFactor 87 = .ok (.iload_n 3, 1) := by decide +kernel
theorem dX5_readFactor_88 : decode cX5_readFactor 88 = .ok (.invokevirtual 129, 3) := by decide +kernel
theorem dX5_readFactor_91 : decode cX5_readFactor 91 = .ok (.aload_n 0, 1) := by decide +kernel
theorem dX5_readFactor_92 : decode cX5_readFactor 92 = .ok (.dup, 1) := by decide +kernel
theorem dX5_readFactor_93 : decode cX5_readFactor 93 = .ok (.getfield 32, 3) := by decide +kernel
theorem dX5_readFactor_96 : decode cX5_readFactor 96 = .ok (.iconst 1, 1) := by decide +kernel
theorem dX5_readFactor_97 : decode cX5_readFactor 97 = .ok (.iadd, 1) := by decide +kernel
theorem dX5_readFactor_98 : decode cX5_readFactor 98 = .ok (.putfield 32, 3) := by decide +kernel
theorem dX5_readFactor_101 : decode cX5_readFactor 101 = .ok (.iconst 1, 1) := by decide +kernel
theorem dX5_readFactor_102 : decode cX5_readFactor 102 = .ok (.ireturn, 1) := by decide +kernel
theorem dX5_readFactor_103 : decode cX5_readFactor 103 = .ok (.iload 4, 2) := by decide +kernel
theorem dX5_readFactor_105 : decode cX5_readFactor 105 = .ok (.invokestatic 111, 3) := by decide +kernel
theorem dX5_readFactor_108 : decode cX5_readFactor 108 = .ok (.ifCond .ne 5, 3) := by decide +kernel
theorem dX5_readFactor_111 : decode cX5_readFactor 111 = .ok (.iconst 0, 1) := by decide +kernel
theorem dX5_readFactor_112 : decode cX5_readFactor 112 = .ok (.ireturn, 1) := by decide +kernel
theorem dX5_readFactor_113 : decode cX5_readFactor 113 = .ok (.iconst 0, 1) := by decide +kernel
theorem dX5_readFactor_114 : decode cX5_readFactor 114 = .ok (.istore 5, 2) := by decide +kernel
theorem dX5_readFactor_116 : decode cX5_readFactor 116 = .ok (.iconst 0, 1) := by decide +kernel
theorem dX5_readFactor_117 : decode cX5_readFactor 117 = .ok (.istore 6, 2) := by decide +kernel
theorem dX5_readFactor_119 : decode cX5_readFactor 119 = .ok (.iload 6, 2) := by decide +kernel
theorem dX5_readFactor_121 : decode cX5_readFactor 121 = .ok (.iconst 3, 1) := by decide +kernel
theorem dX5_readFactor_122 : decode cX5_readFactor 122 = .ok (.if_icmp .ge 58, 3) := by decide +kernel
theorem dX5_readFactor_125 : decode cX5_readFactor 125 = .ok (.aload_n 0, 1) := by decide +kernel
theorem dX5_readFactor_126 : decode cX5_readFactor 126 = .ok (.getfield 9, 3) := by decide +kernel
theorem dX5_readFactor_129 : decode cX5_readFactor 129 = .ok (.aload_n 0, 1) := by decide +kernel
theorem dX5_readFactor_130 : decode cX5_readFactor 130 = .ok (.getfield 32, 3) := by decide +kernel
theorem dX5_readFactor_133 : decode cX5_readFactor 133 = .ok (.invokevirtual 71, 3) := by decide +kernel
theorem dX5_readFactor_136 : decode cX5_readFactor 136 = .ok (.invokestatic 111, 3) := by decide +kernel
theorem dX5_readFactor_139 : decode cX5_readFactor 139 = .ok (.ifCond .eq 41, 3) := by decide +kernel
theorem dX5_readFactor_142 : decode cX5_readFactor 142 = .ok (.iload 5, 2) := by decide +kernel
theorem dX5_readFactor_144 : decode cX5_readFactor 144 = .ok (.bipush 10, 2) := by decide +kernel
theorem dX5_readFactor_146 : decode cX5_readFactor 146 = .ok (.imul, 1) := by decide +kernel
theorem dX5_readFactor_147 : decode cX5_readFactor 147 = .ok (.aload_n 0, 1) := by decide +kernel
theorem dX5_readFactor_148 : decode cX5_readFactor 148 = .ok (.getfield 9, 3) := by decide +kernel
theorem dX5_readFactor_151 : decode cX5_readFactor 151 = .ok (.aload_n 0, 1) := by decide +kernel
theorem dX5_readFactor_152 : decode cX5_readFactor 152 = .ok (.getfield 32, 3) := by decide +kernel
theorem dX5_readFactor_155 : decode cX5_readFactor 155 = .ok (.invokevirtual 71, 3) := by decide +kernel
theorem dX5_readFactor_158 : decode cX5_readFactor 158 = .ok (.iadd, 1) := by decide +kernel
theorem dX5_readFactor_159 : decode cX5_readFactor 159 = .ok (.bipush 48, 2) := by decide +kernel
theorem dX5_readFactor_161 : decode cX5_readFactor 161 = .ok (.isub, 1) := by decide +kernel
theorem dX5_readFactor_162 : decode cX5_readFactor 162 = .ok (.istore 5, 2) := by decide +kernel
theorem dX5_readFactor_164 : decode cX5_readFactor 164 = .ok (.aload_n 0, 1) := by decide +kernel
theorem dX5_readFactor_165 : decode cX5_readFactor 165 = .ok (.dup, 1) := by decide +kernel
theorem dX5_readFactor_166 : decode cX5_readFactor 166 = .ok (.getfield 32, 3) := by decide +kernel
theorem dX5_readFactor_169 : decode cX5_readFactor 169 = .ok (.iconst 1, 1) := by decide +kernel
theorem dX5_readFactor_170 : decode cX5_readFactor 170 = .ok (.iadd, 1) := by decide +kernel
theorem dX5_readFactor_171 : decode cX5_readFactor 171 = .ok (.putfield 32, 3) := by decide +kernel
theorem dX5_readFactor_174 : decode cX5_readFactor 174 = .ok (.iinc 6 1, 3) := by decide +kernel
theorem dX5_readFactor_177 : decode cX5_readFactor 177 = .ok (.goto (-58), 3) := by decide +kernel
theorem dX5_readFactor_180 : decode cX5_readFactor 180 = .ok (.aload_n 1, 1) := by decide +kernel
theorem dX5_readFactor_181 : decode cX5_readFactor 181 = .ok (.iload_n 2, 1) := by decide +kernel
theorem dX5_readFactor_182 : decode cX5_readFactor 182 = .ok (.iload 5, 2) := by decide +kernel
theorem dX5_readFactor_184 : decode cX5_readFactor 184 = .ok (.iload_n 3, 1) := by decide +kernel
theorem dX5_readFactor_185 : decode cX5_readFactor 185 = .ok (.invokevirtual 129, 3) := by decide +kernel
theorem dX5_readFactor_188 : decode cX5_readFactor 188 = .ok (.iconst 1, 1) := by decide +kernel
theorem dX5_readFactor_189 : decode cX5_readFactor 189 = .ok (.ireturn, 1) := by decide +kernel
theorem dX5_readBehind_0 : decode cX5_readBehind 0 = .ok (.aload_n 0, 1) := by decide +kernel
theorem dX5_readBehind_1 : decode cX5_readBehind 1 = .ok (.getfield 36, 3) := by decide +kernel
theorem dX5_readBehind_4 : decode cX5_readBehind 4 = .ok (.iconst 1, 1) := by decide +kernel
theorem dX5_readBehind_5 : decode cX5_readBehind 5 = .ok (.if_icmp .lt 29, 3) := by decide +kernel
theorem dX5_readBehind_8 : decode cX5_readBehind 8 = .ok (.aload_n 0, 1) := by decide +kernel
theorem dX5_readBehind_9 : decode cX5_readBehind 9 = .ok (.getfield 36, 3) := by decide +kernel
theorem dX5_readBehind_12 : decode cX5_readBehind 12 = .ok (.aload_n 0, 1) := by decide +kernel
theorem dX5_readBehind_13 : decode cX5_readBehind 13 = .ok (.getfield 15, 3) := by decide +kernel
theorem dX5_readBehind_16 : decode cX5_readBehind 16 = .ok (.arraylength, 1) := by decide +kernel
theorem dX5_readBehind_17 : decode cX5_readBehind 17 = .ok (.if_icmp .gt 17, 3) := by decide +kernel
theorem dX5_readBehind_20 : decode cX5_readBehind 20 = .ok (.aload_n 0, 1) := by decide +kernel
theorem dX5_readBehind_21 : decode cX5_readBehind 21 = .ok (.getfield 15, 3) := by decide +kernel
theorem dX5_readBehind_24 : decode cX5_readBehind 24 = .ok (.aload_n 0, 1) := by decide +kernel
theorem dX5_readBehind_25 : decode cX5_readBehind 25 = .ok (.getfield 36, 3) := by decide +kernel
theorem dX5_readBehind_28 : decode cX5_readBehind 28 = .ok (.iconst 1, 1) := by decide +kernel
theorem dX5_readBehind_29 : decode cX5_readBehind 29 = .ok (.isub, 1) := by decide +kernel
theorem dX5_readBehind_30 : decode cX5_readBehind 30 = .ok (.iaload, 1) := by decide +kernel
theorem dX5_readBehind_31 : decode cX5_readBehind 31 = .ok (.goto 4, 3) := by decide +kernel
theorem dX5_readBehind_34 : decode cX5_readBehind 34 = .ok (.iconst (-1), 1) := by decide +kernel
theorem dX5_readBehind_35 : decode cX5_readBehind 35 = .ok (.istore_n 1, 1) := by decide +kernel
theorem dX5_readBehind_36 : decode cX5_readBehind 36 = .ok (.aload_n 0, 1) := by decide +kernel
theorem dX5_readBehind_37 : decode cX5_readBehind 37 = .ok (.getfield 25, 3) := by decide +kernel
theorem dX5_readBehind_40 : decode cX5_readBehind 40 = .ok (.iload_n 1, 1) := by decide +kernel
theorem dX5_readBehind_41 : decode cX5_readBehind 41 = .ok (.invokevirtual 133, 3) := by decide +kernel
theorem dX5_readBehind_44 : decode cX5_readBehind 44 = .ok (.istore_n 2, 1) := by decide +kernel
theorem dX5_readBehind_45 : decode cX5_readBehind 45 = .ok (.aload_n 0, 1) := by decide +kernel
theorem dX5_readBehind_46 : decode cX5_readBehind 46 = .ok (.getfield 9, 3) := by decide +kernel
theorem dX5_readBehind_49 : decode cX5_readBehind 49 = .ok (.aload_n 0, 1) := by decide +kernel
theorem dX5_readBehind_50 : decode cX5_readBehind 50 = .ok (.getfield 32, 3) := by decide +kernel
theorem dX5_readBehind_53 : decode cX5_readBehind 53 = .ok (.invokevirtual 71, 3) := by decide +kernel
theorem dX5_readBehind_56 : decode cX5_readBehind 56 = .ok (.istore_n 3, 1) := by decide +kernel
theorem dX5_readBehind_57 : decode cX5_readBehind 57 = .ok (.iload_n 3, 1) := by decide +kernel
theorem dX5_readBehind_58 : decode cX5_readBehind 58 = .ok (.bipush 59, 2) := by decide +kernel
theorem dX5_readBehind_60 : decode cX5_readBehind 60 = .ok (.if_icmp .ne 11, 3) := by decide +kernel
theorem dX5_readBehind_63 : decode cX5_readBehind 63 = .ok (.aload_n 0, 1) := by decide +kernel
theorem dX5_readBehind_64 : decode cX5_readBehind 64 = .ok (.iconst 1, 1) := by decide +kernel
theorem dX5_readBehind_65 : decode cX5_readBehind 65 = .ok (.putfield 39, 3) := by decide +kernel
theorem dX5_readBehind_68 : decode cX5_readBehind 68 = .ok (.goto 136, 3) := by decide +kernel
theorem dX5_readBehind_71 : decode cX5_readBehind 71 = .ok (.iload_n 3, 1) := by decide +kernel
theorem dX5_readBehind_72 : decode cX5_readBehind 72 = .ok (.bipush 124, 2) := by decide +kernel
theorem dX5_readBehind_74 : decode cX5_readBehind 74 = .ok (.if_icmp .ne 34, 3) := by decide +kernel
theorem dX5_readBehind_77 : decode cX5_readBehind 77 = .ok (.iload_n 2, 1) := by decide +kernel
theorem dX5_readBehind_78 : decode cX5_readBehind 78 = .ok (.iconst 5, 1) := by decide +kernel
theorem dX5_readBehind_79 : decode cX5_readBehind 79 = .ok (.if_icmp .ne 29, 3) := by decide +kernel
theorem dX5_readBehind_82 : decode cX5_readBehind 82 = .ok (.aload_n 0, 1) := by decide +kernel
theorem dX5_readBehind_83 : decode cX5_readBehind 83 = .ok (.getfield 25, 3) := by decide +kernel
theorem dX5_readBehind_86 : decode cX5_readBehind 86 = .ok (.iload_n 1, 1) := by decide +kernel
theorem dX5_readBehind_87 : decode cX5_readBehind 87 = .ok (.invokevirtual 105, 3) := by decide +kernel
theorem dX5_readBehind_90 : decode cX5_readBehind 90 = .ok (.ifCond .ne 5, 3) := by decide +kernel
theorem dX5_readBehind_93 : decode cX5_readBehind 93 = .ok (.iconst 0, 1) := by decide +kernel
theorem dX5_readBehind_94 : decode cX5_readBehind 94 = .ok (.ireturn, 1) := by decide +kernel
theorem dX5_readBehind_95 : decode cX5_readBehind 95 = .ok (.aload_n 0, 1) := by decide +kernel
theorem dX5_readBehind_96 : decode cX5_readBehind 96 = .ok (.iconst (-1), 1) := by decide +kernel
theorem dX5_readBehind_97 : decode cX5_readBehind 97 = .ok (.invokevirtual 46, 3) := by decide +kernel
theorem dX5_readBehind_100 : decode cX5_readBehind 100 = .ok (.aload_n 0, 1) := by decide +kernel
theorem dX5_readBehind_101 : decode cX5_readBehind 101 = .ok (.iconst 1, 1) := by decide +kernel
theorem dX5_readBehind_102 : decode cX5_readBehind 102 = .ok (.putfield 39, 3) := by decide +kernel
theorem dX5_readBehind_105 : decode cX5_readBehind 105 = .ok (.goto 99, 3) := by decide +kernel
theorem dX5_readBehind_108 : decode cX5_readBehind 108 = .ok (.iload_n 3, 1) := by decide +kernel
theorem dX5_readBehind_109 : decode cX5_readBehind 109 = .ok (.bipush 41, 2) := by decide +kernel
theorem dX5_readBehind_111 : decode cX5_readBehind 111 = .ok (.if_icmp .ne 27, 3) := by decide +kernel
theorem dX5_readBehind_114 : decode cX5_readBehind 114 = .ok (.iload_n 2, 1) := by decide +kernel
theorem dX5_readBehind_115 : decode cX5_readBehind 115 = .ok (.iconst 5, 1) := by decide +kernel
theorem dX5_readBehind_116 : decode cX5_readBehind 116 = .ok (.if_icmp .eq 9, 3) := by decide +kernel
theorem dX5_readBehind_119 : decode cX5_readBehind 119 = .ok (.iload_n 2, 1) := by decide +kernel
theorem dX5_readBehind_120 : decode cX5_readBehind 120 = .ok (.bipush 9, 2) := by decide +kernel
theorem dX5_readBehind_122 : decode cX5_readBehind 122 = .ok (.if_icmp .ne 16, 3) := by decide +kernel
theorem dX5_readBehind_125 : decode cX5_readBehind 125 = .ok (.aload_n 0, 1) := by decide +kernel
theorem dX5_readBehind_126 : decode cX5_readBehind 126 = .ok (.dup, 1) := by decide +kernel
theorem dX5_readBehind_127 : decode cX5_readBehind 127 = .ok (.getfield 36, 3) := by decide +kernel
theorem dX5_readBehind_130 : decode cX5_readBehind 130 = .ok (.iconst 1, 1) := by decide +kernel
theorem dX5_readBehind_131 : decode cX5_readBehind 131 = .ok (.isub, 1) := by decide +kernel
theorem dX5_readBehind_132 : decode cX5_readBehind 132 = .ok (.putfield 36, 3) := by decide +kernel
theorem dX5_readBehind_135 : decode cX5_readBehind 135 = .ok (.goto 69, 3) := by decide +kernel
theorem dX5_readBehind_138 : decode cX5_readBehind 138 = .ok (.iload_n 3, 1) := by decide +kernel
theorem dX5_readBehind_139 : decode cX5_readBehind 139 = .ok (.bipush 93, 2) := by decide +kernel
theorem dX5_readBehind_141 : decode cX5_readBehind 141 = .ok (.if_icmp .ne 28, 3) := by decide +kernel
theorem dX5_readBehind_144 : decode cX5_readBehind 144 = .ok (.iload_n 2, 1) := by decide +kernel
theorem dX5_readBehind_145 : decode cX5_readBehind 145 = .ok (.bipush 6, 2) := by decide +kernel
theorem dX5_readBehind_147 : decode cX5_readBehind 147 = .ok (.if_icmp .eq 9, 3) := by decide +kernel
theorem dX5_readBehind_150 : decode cX5_readBehind 150 = .ok (.iload_n 2, 1) := by decide +kernel
theorem dX5_readBehind_151 : decode cX5_readBehind 151 = .ok (.bipush 7, 2) := by decide +kernel
theorem dX5_readBehind_153 : decode cX5_readBehind 153 = .ok (.if_icmp .ne 16, 3) := by decide +kernel
theorem dX5_readBehind_156 : decode cX5_readBehind 156 = .ok (.aload_n 0, 1) := by decide +kernel
theorem dX5_readBehind_157 : decode cX5_readBehind 157 = .ok (.dup, 1) := by decide +kernel
theorem dX5_readBehind_158 : decode cX5_readBehind 158 = .ok (.getfield 36, 3) := by decide +kernel
theorem dX5_readBehind_161 : decode cX5_readBehind 161 = .ok (.iconst 1, 1) := by decide +kernel
theorem dX5_readBehind_162 : decode cX5_readBehind 162 = .ok (.isub, 1) := by decide +kernel
theorem dX5_readBehind_163 : decode cX5_readBehind 163 = .ok (.putfield 36, 3) := by decide +kernel
theorem dX5_readBehind_166 : decode cX5_readBehind 166 = .ok (.goto 38, 3) := by decide +kernel
theorem dX5_readBehind_169 : decode cX5_readBehind 169 = .ok (.aload_n 0, 1) := by decide +kernel
theorem dX5_readBehind_170 : decode cX5_readBehind 170 = .ok (.aload_n 0, 1) := by decide +kernel
theorem dX5_readBehind_171 : decode cX5_readBehind 171 = .ok (.getfield 36, 3) := by decide +kernel
theorem dX5_readBehind_174 : decode cX5_readBehind 174 = .ok (.ifCond .ne 21, 3) := by decide +kernel
theorem dX5_readBehind_177 : decode cX5_readBehind 177 = .ok (.aload_n 0, 1) := by decide +kernel
theorem dX5_readBehind_178 : decode cX5_readBehind 178 = .ok (.getfield 32, 3) := by decide +kernel
theorem dX5_readBehind_181 : decode cX5_readBehind 181 = .ok (.aload_n 0, 1) := by decide +kernel
theorem dX5_readBehind_182 : decode cX5_readBehind 182 = .ok (.getfield 9, 3) := by decide +kernel
theorem dX5_readBehind_185 : decode cX5_readBehind 185 = .ok (.getfield 65, 3) := by decide +kernel
theorem dX5_readBehind_188 : decode cX5_readBehind 188 = .ok (.if_icmp .ne 7, 3) := by decide +kernel
theorem dX5_readBehind_191 : decode cX5_readBehind 191 = .ok (.iconst 1, 1) := by decide +kernel
theorem dX5_readBehind_192 : decode cX5_readBehind 192 = .ok (.goto 4, 3) := by decide +kernel
theorem dX5_readBehind_195 : decode cX5_readBehind 195 = .ok (.iconst 0, 1) := by decide +kernel
theorem dX5_readBehind_196 : decode cX5_readBehind 196 = .ok (.putfield 43, 3) := by decide +kernel
theorem dX5_readBehind_199 : decode cX5_readBehind 199 = .ok (.aload_n 0, 1) := by decide +kernel
theorem dX5_readBehind_200 : decode cX5_readBehind 200 = .ok (.getfield 43, 3) := by decide +kernel
theorem dX5_readBehind_203 : decode cX5_readBehind 203 = .ok (.ireturn, 1) := by decide +kernel
theorem dX5_readBehind_204 : decode cX5_readBehind 204 = .ok (.aload_n 0, 1) := by decide +kernel
theorem dX5_readBehind_205 : decode cX5_readBehind 205 = .ok (.dup, 1) := by decide +kernel
theorem dX5_readBehind_206 : decode cX5_readBehind 206 = .ok (.getfield 32, 3) := by decide +kernel
theorem dX5_readBehind_209 : decode cX5_readBehind 209 = .ok (.iconst 1, 1) := by decide +kernel
theorem dX5_readBehind_210 : decode cX5_readBehind 210 = .ok (.iadd, 1) := by decide +kernel
theorem dX5_readBehind_211 : decode cX5_readBehind 211 = .ok (.putfield 32, 3) := by decide +kernel
theorem dX5_readBehind_214 : decode cX5_readBehind 214 = .ok (.iconst 1, 1) := by decide +kernel
theorem dX5_readBehind_215 : decode cX5_readBehind 215 = .ok (.ireturn, 1) := by decide +kernel
theorem dX5_isVariable_0 : decode cX5_isVariable 0 = .ok (.iload_n 0, 1) := by decide +kernel
theorem dX5_isVariable_1 : decode cX5_isVariable 1 = .ok (.bipush 97, 2) := by decide +kernel
theorem dX5_isVariable_3 : decode cX5_isVariable 3 = .ok (.if_icmp .lt 13, 3) := by decide +kernel
theorem dX5_isVariable_6 : decode cX5_isVariable 6 = .ok (.iload_n 0, 1) := by decide +kernel
theorem dX5_isVariable_7 : decode cX5_isVariable 7 = .ok (.bipush 105, 2) := by decide +kernel
theorem dX5_isVariable_9 : decode cX5_isVariable 9 = .ok (.if_icmp .ge 7, 3) := by decide +kernel
theorem dX5_isVariable_12 : decode cX5_isVariable 12 = .ok (.iconst 1, 1) := by decide +kernel
theorem dX5_isVariable_13 : decode cX5_isVariable 13 = .ok (.goto 4, 3) := by decide +kernel
theorem dX5_isVariable_16 : decode cX5_isVariable 16 = .ok (.iconst 0, 1) := by decide +kernel
theorem dX5_isVariable_17 : decode cX5_isVariable 17 = .ok (.ireturn, 1) := by decide +kernel
theorem dX5_isDigit_0 : decode cX5_isDigit 0 = .ok (.iload_n 0, 1) := by decide +kernel
theorem dX5_isDigit_1 : decode cX5_isDigit 1 = .ok (.bipush 48, 2) := by decide +kernel
theorem dX5_isDigit_3 : decode cX5_isDigit 3 = .ok (.if_icmp .lt 13, 3) := by decide +kernel
theorem dX5_isDigit_6 : decode cX5_isDigit 6 = .ok (.iload_n 0, 1) := by decide +kernel
theorem dX5_isDigit_7 : decode cX5_isDigit 7 = .ok (.bipush 57, 2) := by decide +kernel
theorem dX5_isDigit_9 : decode cX5_isDigit 9 = .ok (.if_icmp .gt 7, 3) := by decide +kernel
theorem dX5_isDigit_12 : decode cX5_isDigit 12 = .ok (.iconst 1, 1) := by decide +kernel
theorem dX5_isDigit_13 : decode cX5_isDigit 13 = .ok (.goto 4, 3) := by decide +kernel
theorem dX5_isDigit_16 : decode cX5_isDigit 16 = .ok (.iconst 0, 1) := by decide +kernel
theorem dX5_isDigit_17 : decode cX5_isDigit 17 = .ok (.ireturn, 1) := by decide +kernel
theorem dX6_init_0 : decode cX6_init 0 = .ok (.aload_n 0, 1) := by decide +kernel
theorem dX6_init_1 : decode cX6_init 1 = .ok (.invokespecial 3, 3) := by decide +kernel
theorem dX6_init_4 : decode cX6_init 4 = .ok (.aload_n 0, 1) := by decide +kernel
theorem dX6_init_5 : decode cX6_init 5 = .ok (.new 9, 3) := by decide +kernel
theorem dX6_init_8 : decode cX6_init 8 = .ok (.dup, 1) := by decide +kernel
theorem dX6_init_9 : decode cX6_init 9 = .ok (.invokespecial 11, 3) := by decide +kernel
theorem dX6_init_12 : decode cX6_init 12 = .ok (.putfield 12, 3) := by decide +kernel
theorem dX6_init_15 : decode cX6_init 15 = .ok (.aload_n 0, 1) := by decide +kernel
theorem dX6_init_16 : decode cX6_init 16 = .ok (.new 18, 3) := by decide +kernel
theorem dX6_init_19 : decode cX6_init 19 = .ok (.dup, 1) := by decide +kernel
theorem dX6_init_20 : decode cX6_init 20 = .ok (.invokespecial 20, 3) := by decide +kernel
theorem dX6_init_23 : decode cX6_init 23 = .ok (.putfield 21, 3) := by decide +kernel
theorem dX6_init_26 : decode cX6_init 26 = .ok (.aload_n 0, 1) := by decide +kernel
theorem dX6_init_27 : decode cX6_init 27 = .ok (.new 25, 3) := by decide +kernel
theorem dX6_init_30 : decode cX6_init 30 = .ok (.dup, 1) := by decide +kernel
theorem dX6_init_31 : decode cX6_init 31 = .ok (.invokespecial 27, 3) := by decide +kernel
theorem dX6_init_34 : decode cX6_init 34 = .ok (.putfield 28, 3) := by decide +kernel
theorem dX6_init_37 : decode cX6_init 37 = .ok (.aload_n 0, 1) := by decide +kernel
theorem dX6_init_38 : decode cX6_init 38 = .ok (.new 25, 3) := by decide +kernel
theorem dX6_init_41 : decode cX6_init 41 = .ok (.dup, 1) := by decide +kernel
theorem dX6_init_42 : decode cX6_init 42 = .ok (.invokespecial 27, 3) := by decide +kernel
theorem dX6_init_45 : decode cX6_init 45 = .ok (.putfield 32, 3) := by decide +kernel
theorem dX6_init_48 : decode cX6_init 48 = .ok (.aload_n 0, 1) := by decide +kernel
theorem dX6_init_49 : decode cX6_init 49 = .ok (.bipush 7, 2) := by decide +kernel
theorem dX6_init_51 : decode cX6_init 51 = .ok (.anewarray 35, 3) := by decide +kernel
theorem dX6_init_54 : decode cX6_init 54 = .ok (.putfield 37, 3) := by decide +kernel
theorem dX6_init_57 : decode cX6_init 57 = .ok (.iconst 0, 1) := by decide +kernel
theorem dX6_init_58 : decode cX6_init 58 = .ok (.istore_n 1, 1) := by decide +kernel
theorem dX6_init_59 : decode cX6_init 59 = .ok (.iload_n 1, 1) := by decide +kernel
theorem dX6_init_60 : decode cX6_init 60 = .ok (.aload_n 0, 1) := by decide +kernel
theorem dX6_init_61 : decode cX6_init 61 = .ok (.getfield 37, 3) := by decide +kernel
theorem dX6_init_64 : decode cX6_init 64 = .ok (.arraylength, 1) := by decide +kernel
theorem dX6_init_65 : decode cX6_init 65 = .ok (.if_icmp .ge 22, 3) := by decide +kernel
theorem dX6_init_68 : decode cX6_init 68 = .ok (.aload_n 0, 1) := by decide +kernel
theorem dX6_init_69 : decode cX6_init 69 = .ok (.getfield 37, 3) := by decide +kernel
theorem dX6_init_72 : decode cX6_init 72 = .ok (.iload_n 1, 1) := by decide +kernel
theorem dX6_init_73 : decode cX6_init 73 = .ok (.new 35, 3) := by decide +kernel
theorem dX6_init_76 : decode cX6_init 76 = .ok (.dup, 1) := by decide +kernel
theorem dX6_init_77 : decode cX6_init 77 = .ok (.invokespecial 41, 3) := by decide +kernel
theorem dX6_init_80 : decode cX6_init 80 = .ok (.aastore, 1) := by decide +kernel
theorem dX6_init_81 : decode cX6_init 81 = .ok (.iinc 1 1, 3) := by decide +kernel
theorem dX6_init_84 : decode cX6_init 84 = .ok (.goto (-25), 3) := by decide +kernel
theorem dX6_init_87 : decode cX6_init 87 = .ok (.aload_n 0, 1) := by decide +kernel
theorem dX6_init_88 : decode cX6_init 88 = .ok (.bipush 7, 2) := by decide +kernel
theorem dX6_init_90 : decode cX6_init 90 = .ok (.newarray .int, 2) := by decide +kernel
theorem dX6_init_92 : decode cX6_init 92 = .ok (.putfield 42, 3) := by decide +kernel
theorem dX6_init_95 : decode cX6_init 95 = .ok (.aload_n 0, 1) := by decide +kernel
theorem dX6_init_96 : decode cX6_init 96 = .ok (.bipush 9, 2) := by decide +kernel
theorem dX6_init_98 : decode cX6_init 98 = .ok (.newarray .int, 2) := by decide +kernel
theorem dX6_init_100 : decode cX6_init 100 = .ok (.putfield 46, 3) := by decide +kernel
theorem dX6_init_103 : decode cX6_init 103 = .ok (.return_, 1) := by decide +kernel
theorem dX6_start_0 : decode cX6_start 0 = .ok (.aload_n 0, 1) := by decide +kernel
theorem dX6_start_1 : decode cX6_start 1 = .ok (.getfield 12, 3) := by decide +kernel
theorem dX6_start_4 : decode cX6_start 4 = .ok (.aload_n 1, 1) := by decide +kernel
theorem dX6_start_5 : decode cX6_start 5 = .ok (.invokevirtual 49, 3) := by decide +kernel
theorem dX6_start_8 : decode cX6_start 8 = .ok (.aload_n 0, 1) := by decide +kernel
theorem dX6_start_9 : decode cX6_start 9 = .ok (.iload_n 2, 1) := by decide +kernel
theorem dX6_start_10 : decode cX6_start 10 = .ok (.putfield 53, 3) := by decide +kernel
theorem dX6_start_13 : decode cX6_start 13 = .ok (.aload_n 0, 1) := by decide +kernel
theorem dX6_start_14 : decode cX6_start 14 = .ok (.iconst 1, 1) := by decide +kernel
theorem dX6_start_15 : decode cX6_start 15 = .ok (.putfield 57, 3) := by decide +kernel
theorem dX6_start_18 : decode cX6_start 18 = .ok (.aload_n 0, 1) := by decide +kernel
theorem dX6_start_19 : decode cX6_start 19 = .ok (.getfield 21, 3) := by decide +kernel
theorem dX6_start_22 : decode cX6_start 22 = .ok (.iconst 0, 1) := by decide +kernel
theorem dX6_start_23 : decode cX6_start 23 = .ok (.putfield 60, 3) := by decide +kernel
theorem dX6_start_26 : decode cX6_start 26 = .ok (.aload_n 0, 1) := by decide +kernel
theorem dX6_start_27 : decode cX6_start 27 = .ok (.getfield 28, 3) := by decide +kernel
theorem dX6_start_30 : decode cX6_start 30 = .ok (.iconst 0, 1) := by decide +kernel
theorem dX6_start_31 : decode cX6_start 31 = .ok (.putfield 63, 3) := by decide +kernel
theorem dX6_start_34 : decode cX6_start 34 = .ok (.iconst 0, 1) := by decide +kernel
theorem dX6_start_35 : decode cX6_start 35 = .ok (.istore_n 3, 1) := by decide +kernel
theorem dX6_start_36 : decode cX6_start 36 = .ok (.iload_n 3, 1) := by decide +kernel
theorem dX6_start_37 : decode cX6_start 37 = .ok (.aload_n 0, 1) := by decide +kernel
theorem dX6_start_38 : decode cX6_start 38 = .ok (.getfield 46, 3) := by decide +kernel
theorem dX6_start_41 : decode cX6_start 41 = .ok (.arraylength, 1) := by decide +kernel
theorem dX6_start_42 : decode cX6_start 42 = .ok (.if_icmp .ge 16, 3) := by decide +kernel
theorem dX6_start_45 : decode cX6_start 45 = .ok (.aload_n 0, 1) := by decide +kernel
theorem dX6_start_46 : decode cX6_start 46 = .ok (.getfield 46, 3) := by decide +kernel
theorem dX6_start_49 : decode cX6_start 49 = .ok (.iload_n 3, 1) := by decide +kernel
theorem dX6_start_50 : decode cX6_start 50 = .ok (.iconst 0, 1) := by decide +kernel
theorem dX6_start_51 : decode cX6_start 51 = .ok (.iastore, 1) := by decide +kernel
theorem dX6_start_52 : decode cX6_start 52 = .ok (.iinc 3 1, 3) := by decide +kernel
theorem dX6_start_55 : decode cX6_start 55 = .ok (.goto (-19), 3) := by decide +kernel
theorem dX6_start_58 : decode cX6_start 58 = .ok (.aload_n 0, 1) := by decide +kernel
theorem dX6_start_59 : decode cX6_start 59 = .ok (.iconst 0, 1) := by decide +kernel
theorem dX6_start_60 : decode cX6_start 60 = .ok (.putfield 64, 3) := by decide +kernel
theorem dX6_start_63 : decode cX6_start 63 = .ok (.aload_n 0, 1) := by decide +kernel
theorem dX6_start_64 : decode cX6_start 64 = .ok (.invokevirtual 67, 3) := by decide +kernel
theorem dX6_start_67 : decode cX6_start 67 = .ok (.return_, 1) := by decide +kernel
theorem dX6_startWay_0 : decode cX6_startWay 0 = .ok (.aload_n 0, 1) := by decide +kernel
theorem dX6_startWay_1 : decode cX6_startWay 1 = .ok (.iconst 0, 1) := by decide +kernel
theorem dX6_startWay_2 : decode cX6_startWay 2 = .ok (.putfield 70, 3) := by decide +kernel
theorem dX6_startWay_5 : decode cX6_startWay 5 = .ok (.aload_n 0, 1) := by decide +kernel
theorem dX6_startWay_6 : decode cX6_startWay 6 = .ok (.iconst 0, 1) := by decide +kernel
theorem dX6_startWay_7 : decode cX6_startWay 7 = .ok (.putfield 74, 3) := by decide +kernel
theorem dX6_startWay_10 : decode cX6_startWay 10 = .ok (.aload_n 0, 1) := by decide +kernel
theorem dX6_startWay_11 : decode cX6_startWay 11 = .ok (.getfield 32, 3) := by decide +kernel
theorem dX6_startWay_14 : decode cX6_startWay 14 = .ok (.iconst 0, 1) := by decide +kernel
theorem dX6_startWay_15 : decode cX6_startWay 15 = .ok (.putfield 63, 3) := by decide +kernel
theorem dX6_startWay_18 : decode cX6_startWay 18 = .ok (.aload_n 0, 1) := by decide +kernel
theorem dX6_startWay_19 : decode cX6_startWay 19 = .ok (.iconst 1, 1) := by decide +kernel
theorem dX6_startWay_20 : decode cX6_startWay 20 = .ok (.putfield 77, 3) := by decide +kernel
theorem dX6_startWay_23 : decode cX6_startWay 23 = .ok (.aload_n 0, 1) := by decide +kernel
theorem dX6_startWay_24 : decode cX6_startWay 24 = .ok (.invokevirtual 80, 3) := by decide +kernel
theorem dX6_startWay_27 : decode cX6_startWay 27 = .ok (.invokevirtual 84, 3) := by decide +kernel
theorem dX6_startWay_30 : decode cX6_startWay 30 = .ok (.return_, 1) := by decide +kernel
theorem dX6_tell_0 : decode cX6_tell 0 = .ok (.iload_n 1, 1) := by decide +kernel
theorem dX6_tell_1 : decode cX6_tell 1 = .ok (.lookupswitch 70 #[(1, 35), (3, 43), (9, 51)], 35) := by decide +kernel
theorem dX6_tell_36 : decode cX6_tell 36 = .ok (.aload_n 0, 1) := by decide +kernel
theorem dX6_tell_37 : decode cX6_tell 37 = .ok (.getfield 21, 3) := by decide +kernel
theorem dX6_tell_40 : decode cX6_tell 40 = .ok (.getfield 60, 3) := by decide +kernel
theorem dX6_tell_43 : decode cX6_tell 43 = .ok (.ireturn, 1) := by decide +kernel
theorem dX6_tell_44 : decode cX6_tell 44 = .ok (.aload_n 0, 1) := by decide +kernel
theorem dX6_tell_45 : decode cX6_tell 45 = .ok (.getfield 28, 3) := by decide +kernel
theorem dX6_tell_48 : decode cX6_tell 48 = .ok (.getfield 63, 3) := by decide +kernel
theorem dX6_tell_51 : decode cX6_tell 51 = .ok (.ireturn, 1) := by decide +kernel
theorem dX6_tell_52 : decode cX6_tell 52 = .ok (.aload_n 0, 1) := by decide +kernel
theorem dX6_tell_53 : decode cX6_tell 53 = .ok (.getfield 53, 3) := by decide +kernel
theorem dX6_tell_56 : decode cX6_tell 56 = .ok (.iconst 5, 1) := by decide +kernel
theorem dX6_tell_57 : decode cX6_tell 57 = .ok (.if_icmp .ne 10, 3) := by decide +kernel
theorem dX6_tell_60 : decode cX6_tell 60 = .ok (.aload_n 0, 1) := by decide +kernel
theorem dX6_tell_61 : decode cX6_tell 61 = .ok (.getfield 64, 3) := by decide +kernel
theorem dX6_tell_64 : decode cX6_tell 64 = .ok (.goto 6, 3) := by decide +kernel
theorem dX6_tell_67 : decode cX6_tell 67 = .ok (.sipush (-2002), 3) := by decide +kernel
theorem dX6_tell_70 : decode cX6_tell 70 = .ok (.ireturn, 1) := by decide +kernel
theorem dX6_tell_71 : decode cX6_tell 71 = .ok (.iload_n 1, 1) := by decide +kernel
theorem dX6_tell_72 : decode cX6_tell 72 = .ok (.ifCond .lt 21, 3) := by decide +kernel
theorem dX6_tell_75 : decode cX6_tell 75 = .ok (.iload_n 1, 1) := by decide +kernel
theorem dX6_tell_76 : decode cX6_tell 76 = .ok (.aload_n 0, 1) := by decide +kernel
theorem dX6_tell_77 : decode cX6_tell 77 = .ok (.getfield 46, 3) := by decide +kernel
theorem dX6_tell_80 : decode cX6_tell 80 = .ok (.arraylength, 1) := by decide +kernel
theorem dX6_tell_81 : decode cX6_tell 81 = .ok (.if_icmp .ge 12, 3) := by decide +kernel
theorem dX6_tell_84 : decode cX6_tell 84 = .ok (.aload_n 0, 1) := by decide +kernel
theorem dX6_tell_85 : decode cX6_tell 85 = .ok (.getfield 46, 3) := by decide +kernel
theorem dX6_tell_88 : decode cX6_tell 88 = .ok (.iload_n 1, 1) := by decide +kernel
theorem dX6_tell_89 : decode cX6_tell 89 = .ok (.iaload, 1) := by decide +kernel
theorem dX6_tell_90 : decode cX6_tell 90 = .ok (.goto 4, 3) := by decide +kernel
theorem dX6_tell_93 : decode cX6_tell 93 = .ok (.iconst 0, 1) := by decide +kernel
theorem dX6_tell_94 : decode cX6_tell 94 = .ok (.ireturn, 1) := by decide +kernel
theorem dX6_tally_0 : decode cX6_tally 0 = .ok (.iload_n 1, 1) := by decide +kernel
theorem dX6_tally_1 : decode cX6_tally 1 = .ok (.ifCond .lt 22, 3) := by decide +kernel
theorem dX6_tally_4 : decode cX6_tally 4 = .ok (.iload_n 1, 1) := by decide +kernel
theorem dX6_tally_5 : decode cX6_tally 5 = .ok (.aload_n 0, 1) := by decide +kernel
theorem dX6_tally_6 : decode cX6_tally 6 = .ok (.getfield 46, 3) := by decide +kernel
theorem dX6_tally_9 : decode cX6_tally 9 = .ok (.arraylength, 1) := by decide +kernel
theorem dX6_tally_10 : decode cX6_tally 10 = .ok (.if_icmp .ge 13, 3) := by decide +kernel
theorem dX6_tally_13 : decode cX6_tally 13 = .ok (.aload_n 0, 1) := by decide +kernel
theorem dX6_tally_14 : decode cX6_tally 14 = .ok (.getfield 46, 3) := by decide +kernel
theorem dX6_tally_17 : decode cX6_tally 17 = .ok (.iload_n 1, 1) := by decide +kernel
theorem dX6_tally_18 : decode cX6_tally 18 = .ok (.dup2, 1) := by decide +kernel
theorem dX6_tally_19 : decode cX6_tally 19 = .ok (.iaload, 1) := by decide +kernel
theorem dX6_tally_20 : decode cX6_tally 20 = .ok (.iload_n 2, 1) := by decide +kernel
theorem dX6_tally_21 : decode cX6_tally 21 = .ok (.iadd, 1) := by decide +kernel
theorem dX6_tally_22 : decode cX6_tally 22 = .ok (.iastore, 1) := by decide +kernel
theorem dX6_tally_23 : decode cX6_tally 23 = .ok (.return_, 1) := by decide +kernel
theorem dX6_mayTake_0 : decode cX6_mayTake 0 = .ok (.aload_n 0, 1) := by decide +kernel
theorem dX6_mayTake_1 : decode cX6_mayTake 1 = .ok (.getfield 57, 3) := by decide +kernel
theorem dX6_mayTake_4 : decode cX6_mayTake 4 = .ok (.iconst 1, 1) := by decide +kernel
theorem dX6_mayTake_5 : decode cX6_mayTake 5 = .ok (.if_icmp .ne 31, 3) := by decide +kernel
theorem dX6_mayTake_8 : decode cX6_mayTake 8 = .ok (.aload_n 0, 1) := by decide +kernel
theorem dX6_mayTake_9 : decode cX6_mayTake 9 = .ok (.getfield 74, 3) := by decide +kernel
theorem dX6_mayTake_12 : decode cX6_mayTake 12 = .ok (.ifCond .ne 24, 3) := by decide +kernel
theorem dX6_mayTake_15 : decode cX6_mayTake 15 = .ok (.aload_n 0, 1) := by decide +kernel
theorem dX6_mayTake_16 : decode cX6_mayTake 16 = .ok (.getfield 77, 3) := by decide +kernel
theorem dX6_mayTake_19 : decode cX6_mayTake 19 = .ok (.ifCond .ne 17, 3) := by decide +kernel
theorem dX6_mayTake_22 : decode cX6_mayTake 22 = .ok (.aload_n 0, 1) := by decide +kernel
theorem dX6_mayTake_23 : decode cX6_mayTake 23 = .ok (.getfield 28, 3) := by decide +kernel
theorem dX6_mayTake_26 : decode cX6_mayTake 26 = .ok (.getfield 63, 3) := by decide +kernel
theorem dX6_mayTake_29 : decode cX6_mayTake 29 = .ok (.ifCond .le 7, 3) := by decide +kernel
theorem dX6_mayTake_32 : decode cX6_mayTake 32 = .ok (.iconst 1, 1) := by decide +kernel
theorem dX6_mayTake_33 : decode cX6_mayTake 33 = .ok (.goto 4, 3) := by decide +kernel
theorem dX6_mayTake_36 : decode cX6_mayTake 36 = .ok (.iconst 0, 1) := by decide +kernel
theorem dX6_mayTake_37 : decode cX6_mayTake 37 = .ok (.ireturn, 1) := by decide +kernel
theorem dX6_chosen_0 : decode cX6_chosen 0 = .ok (.aload_n 0, 1) := by decide +kernel
theorem dX6_chosen_1 : decode cX6_chosen 1 = .ok (.getfield 53, 3) := by decide +kernel
theorem dX6_chosen_4 : decode cX6_chosen 4 = .ok (.iconst 1, 1) := by decide +kernel
theorem dX6_chosen_5 : decode cX6_chosen 5 = .ok (.if_icmp .eq 11, 3) := by decide +kernel
theorem dX6_chosen_8 : decode cX6_chosen 8 = .ok (.aload_n 0, 1) := by decide +kernel
theorem dX6_chosen_9 : decode cX6_chosen 9 = .ok (.getfield 53, 3) := by decide +kernel
theorem dX6_chosen_12 : decode cX6_chosen 12 = .ok (.iconst 2, 1) := by decide +kernel
theorem dX6_chosen_13 : decode cX6_chosen 13 = .ok (.if_icmp .ne 7, 3) := by decide +kernel
theorem dX6_chosen_16 : decode cX6_chosen 16 = .ok (.iconst 1, 1) := by decide +kernel
theorem dX6_chosen_17 : decode cX6_chosen 17 = .ok (.goto 4, 3) := by decide +kernel
theorem dX6_chosen_20 : decode cX6_chosen 20 = .ok (.iconst 0, 1) := by decide +kernel
theorem dX6_chosen_21 : decode cX6_chosen 21 = .ok (.istore_n 1, 1) := by decide +kernel
theorem dX6_chosen_22 : decode cX6_chosen 22 = .ok (.iconst (-1), 1) := by decide +kernel
theorem dX6_chosen_23 : decode cX6_chosen 23 = .ok (.istore_n 2, 1) := by decide +kernel
theorem dX6_chosen_24 : decode cX6_chosen 24 = .ok (.iconst 0, 1) := by decide +kernel
theorem dX6_chosen_25 : decode cX6_chosen 25 = .ok (.istore_n 3, 1) := by decide +kernel
theorem dX6_chosen_26 : decode cX6_chosen 26 = .ok (.iconst 0, 1) := by decide +kernel
theorem dX6_chosen_27 : decode cX6_chosen 27 = .ok (.istore 4, 2) := by decide +kernel
theorem dX6_chosen_29 : decode cX6_chosen 29 = .ok (.iload 4, 2) := by decide +kernel
theorem dX6_chosen_31 : decode cX6_chosen 31 = .ok (.aload_n 0, 1) := by decide +kernel
theorem dX6_chosen_32 : decode cX6_chosen 32 = .ok (.getfield 28, 3) := by decide +kernel
theorem dX6_chosen_35 : decode cX6_chosen 35 = .ok (.getfield 63, 3) := by decide +kernel
theorem dX6_chosen_38 : decode cX6_chosen 38 = .ok (.if_icmp .ge 67, 3) := by decide +kernel
theorem dX6_chosen_41 : decode cX6_chosen 41 = .ok (.aload_n 0, 1) := by decide +kernel
theorem dX6_chosen_42 : decode cX6_chosen 42 = .ok (.getfield 28, 3) := by decide +kernel
theorem dX6_chosen_45 : decode cX6_chosen 45 = .ok (.iload 4, 2) := by decide +kernel
theorem dX6_chosen_47 : decode cX6_chosen 47 = .ok (.invokevirtual 102, 3) := by decide +kernel
theorem dX6_chosen_50 : decode cX6_chosen 50 = .ok (.astore 5, 2) := by decide +kernel
theorem dX6_chosen_52 : decode cX6_chosen 52 = .ok (.aload 5, 2) := by decide +kernel
theorem dX6_chosen_54 : decode cX6_chosen 54 = .ok (.ifnonnull 7, 3) := by decide +kernel
theorem dX6_chosen_57 : decode cX6_chosen 57 = .ok (.iconst 0, 1) := by decide +kernel
theorem dX6_chosen_58 : decode cX6_chosen 58 = .ok (.goto 12, 3) := by decide +kernel
theorem dX6_chosen_61 : decode cX6_chosen 61 = .ok (.aload 5, 2) := by decide +kernel
theorem dX6_chosen_63 : decode cX6_chosen 63 = .ok (.aload_n 0, 1) := by decide +kernel
theorem dX6_chosen_64 : decode cX6_chosen 64 = .ok (.getfield 53, 3) := by decide +kernel
theorem dX6_chosen_67 : decode cX6_chosen 67 = .ok (.invokevirtual 106, 3) := by decide +kernel
theorem dX6_chosen_70 : decode cX6_chosen 70 = .ok (.istore 6, 2) := by decide +kernel
theorem dX6_chosen_72 : decode cX6_chosen 72 = .ok (.iload_n 2, 1) := by decide +kernel
theorem dX6_chosen_73 : decode cX6_chosen 73 = .ok (.iconst (-1), 1) := by decide +kernel
theorem dX6_chosen_74 : decode cX6_chosen 74 = .ok (.if_icmp .eq 19, 3) := by decide +kernel
theorem dX6_chosen_77 : decode cX6_chosen 77 = .ok (.iload 6, 2) := by decide +kernel
theorem dX6_chosen_79 : decode cX6_chosen 79 = .ok (.iload_n 3, 1) := by decide +kernel
theorem dX6_chosen_80 : decode cX6_chosen 80 = .ok (.if_icmp .lt 13, 3) := by decide +kernel
theorem dX6_chosen_83 : decode cX6_chosen 83 = .ok (.iload 6, 2) := by decide +kernel
theorem dX6_chosen_85 : decode cX6_chosen 85 = .ok (.iload_n 3, 1) := by decide +kernel
theorem dX6_chosen_86 : decode cX6_chosen 86 = .ok (.if_icmp .ne 13, 3) := by decide +kernel
theorem dX6_chosen_89 : decode cX6_chosen 89 = .ok (.iload_n 1, 1) := by decide +kernel
theorem dX6_chosen_90 : decode cX6_chosen 90 = .ok (.ifCond .ne 9, 3) := by decide +kernel
theorem dX6_chosen_93 : decode cX6_chosen 93 = .ok (.iload 4, 2) := by decide +kernel
theorem dX6_chosen_95 : decode cX6_chosen 95 = .ok (.istore_n 2, 1) := by decide +kernel
theorem dX6_chosen_96 : decode cX6_chosen 96 = .ok (.iload 6, 2) := by decide +kernel
theorem dX6_chosen_98 : decode cX6_chosen 98 = .ok (.istore_n 3, 1) := by decide +kernel
theorem dX6_chosen_99 : decode cX6_chosen 99 = .ok (.iinc 4 1, 3) := by decide +kernel
theorem dX6_chosen_102 : decode cX6_chosen 102 = .ok (.goto (-73), 3) := by decide +kernel
theorem dX6_chosen_105 : decode cX6_chosen 105 = .ok (.iload_n 2, 1) := by decide +kernel
theorem dX6_chosen_106 : decode cX6_chosen 106 = .ok (.ireturn, 1) := by decide +kernel
theorem dX6_run_0 : decode cX6_run 0 = .ok (.aload_n 0, 1) := by decide +kernel
theorem dX6_run_1 : decode cX6_run 1 = .ok (.iload_n 1, 1) := by decide +kernel
theorem dX6_run_2 : decode cX6_run 2 = .ok (.putfield 112, 3) := by decide +kernel
theorem dX6_run_5 : decode cX6_run 5 = .ok (.iconst 0, 1) := by decide +kernel
theorem dX6_run_6 : decode cX6_run 6 = .ok (.istore_n 3, 1) := by decide +kernel
theorem dX6_run_7 : decode cX6_run 7 = .ok (.iload_n 3, 1) := by decide +kernel
theorem dX6_run_8 : decode cX6_run 8 = .ok (.ldc 115, 2) := by decide +kernel
theorem dX6_run_10 : decode cX6_run 10 = .ok (.if_icmp .ge 90, 3) := by decide +kernel
theorem dX6_run_13 : decode cX6_run 13 = .ok (.aload_n 0, 1) := by decide +kernel
theorem dX6_run_14 : decode cX6_run 14 = .ok (.invokevirtual 80, 3) := by decide +kernel
theorem dX6_run_17 : decode cX6_run 17 = .ok (.astore 4, 2) := by decide +kernel
theorem dX6_run_19 : decode cX6_run 19 = .ok (.aload_n 0, 1) := by decide +kernel
theorem dX6_run_20 : decode cX6_run 20 = .ok (.getfield 77, 3) := by decide +kernel
theorem dX6_run_23 : decode cX6_run 23 = .ok (.ifCond .ne 14, 3) := by decide +kernel
theorem dX6_run_26 : decode cX6_run 26 = .ok (.aload_n 0, 1) := by decide +kernel
theorem dX6_run_27 : decode cX6_run 27 = .ok (.aload 4, 2) := by decide +kernel
theorem dX6_run_29 : decode cX6_run 29 = .ok (.invokevirtual 116, 3) := by decide +kernel
theorem dX6_run_32 : decode cX6_run 32 = .ok (.istore 5, 2) := by decide +kernel
theorem dX6_run_34 : decode cX6_run 34 = .ok (.goto 42, 3) := by decide +kernel
theorem dX6_run_37 : decode cX6_run 37 = .ok (.aload 4, 2) := by decide +kernel
theorem dX6_run_39 : decode cX6_run 39 = .ok (.getfield 120, 3) := by decide +kernel
theorem dX6_run_42 : decode cX6_run 42 = .ok (.iconst (-1), 1) := by decide +kernel
theorem dX6_run_43 : decode cX6_run 43 = .ok (.if_icmp .ne 14, 3) := by decide +kernel
theorem dX6_run_46 : decode cX6_run 46 = .ok (.aload_n 0, 1) := by decide +kernel
theorem dX6_run_47 : decode cX6_run 47 = .ok (.aload 4, 2) := by decide +kernel
theorem dX6_run_49 : decode cX6_run 49 = .ok (.invokevirtual 123, 3) := by decide +kernel
theorem dX6_run_52 : decode cX6_run 52 = .ok (.istore 5, 2) := by decide +kernel
theorem dX6_run_54 : decode cX6_run 54 = .ok (.goto 22, 3) := by decide +kernel
theorem dX6_run_57 : decode cX6_run 57 = .ok (.aload_n 0, 1) := by decide +kernel
theorem dX6_run_58 : decode cX6_run 58 = .ok (.invokevirtual 126, 3) := by decide +kernel
theorem dX6_run_61 : decode cX6_run 61 = .ok (.ifCond .eq 12, 3) := by decide +kernel
theorem dX6_run_64 : decode cX6_run 64 = .ok (.aload_n 0, 1) := by decide +kernel
theorem dX6_run_65 : decode cX6_run 65 = .ok (.aload 4, 2) := by decide +kernel
theorem dX6_run_67 : decode cX6_run 67 = .ok (.invokevirtual 130, 3) := by decide +kernel
theorem dX6_run_70 : decode cX6_run 70 = .ok (.goto 4, 3) := by decide +kernel
theorem dX6_run_73 : decode cX6_run 73 = .ok (.iconst 2, 1) := by decide +kernel
theorem dX6_run_74 : decode cX6_run 74 = .ok (.istore 5, 2) := by decide +kernel
theorem dX6_run_76 : decode cX6_run 76 = .ok (.iload 5, 2) := by decide +kernel
theorem dX6_run_78 : decode cX6_run 78 = .ok (.ifCond .eq 16, 3) := by decide +kernel
theorem dX6_run_81 : decode cX6_run 81 = .ok (.iload 5, 2) := by decide +kernel
theorem dX6_run_83 : decode cX6_run 83 = .ok (.iconst 1, 1) := by decide +kernel
theorem dX6_run_84 : decode cX6_run 84 = .ok (.if_icmp .ne 7, 3) := by decide +kernel
theorem dX6_run_87 : decode cX6_run 87 = .ok (.iload_n 2, 1) := by decide +kernel
theorem dX6_run_88 : decode cX6_run 88 = .ok (.ifCond .eq 6, 3) := by decide +kernel
theorem dX6_run_91 : decode cX6_run 91 = .ok (.iload 5, 2) := by decide +kernel
theorem dX6_run_93 : decode cX6_run 93 = .ok (.ireturn, 1) := by decide +kernel
theorem dX6_run_94 : decode cX6_run 94 = .ok (.iinc 3 1, 3) := by decide +kernel
theorem dX6_run_97 : decode cX6_run 97 = .ok (.goto (-90), 3) := by decide +kernel
theorem dX6_run_100 : decode cX6_run 100 = .ok (.iconst 2, 1) := by decide +kernel
theorem dX6_run_101 : decode cX6_run 101 = .ok (.ireturn, 1) := by decide +kernel
theorem dX6_spend_0 : decode cX6_spend 0 = .ok (.aload_n 0, 1) := by decide +kernel
theorem dX6_spend_1 : decode cX6_spend 1 = .ok (.getfield 112, 3) := by decide +kernel
theorem dX6_spend_4 : decode cX6_spend 4 = .ok (.ifCond .gt 5, 3) := by decide +kernel
theorem dX6_spend_7 : decode cX6_spend 7 = .ok (.iconst 0, 1) := by decide +kernel
theorem dX6_spend_8 : decode cX6_spend 8 = .ok (.ireturn, 1) := by decide +kernel
theorem dX6_spend_9 : decode cX6_spend 9 = .ok (.aload_n 0, 1) := by decide +kernel
theorem dX6_spend_10 : decode cX6_spend 10 = .ok (.dup, 1) := by decide +kernel
theorem dX6_spend_11 : decode cX6_spend 11 = .ok (.getfield 112, 3) := by decide +kernel
theorem dX6_spend_14 : decode cX6_spend 14 = .ok (.iconst 1, 1) := by decide +kernel
theorem dX6_spend_15 : decode cX6_spend 15 = .ok (.isub, 1) := by decide +kernel
theorem dX6_spend_16 : decode cX6_spend 16 = .ok (.putfield 112, 3) := by decide +kernel
theorem dX6_spend_19 : decode cX6_spend 19 = .ok (.aload_n 0, 1) := by decide +kernel
theorem dX6_spend_20 : decode cX6_spend 20 = .ok (.iconst 2, 1) := by decide +kernel
theorem dX6_spend_21 : decode cX6_spend 21 = .ok (.iconst 1, 1) := by decide +kernel
theorem dX6_spend_22 : decode cX6_spend 22 = .ok (.invokevirtual 133, 3) := by decide +kernel
theorem dX6_spend_25 : decode cX6_spend 25 = .ok (.iconst 1, 1) := by decide +kernel
theorem dX6_spend_26 : decode cX6_spend 26 = .ok (.ireturn, 1) := by decide +kernel
theorem dX6_finish_0 : decode cX6_finish 0 = .ok (.aload_n 0, 1) := by decide +kernel
theorem dX6_finish_1 : decode cX6_finish 1 = .ok (.iconst 2, 1) := by decide +kernel
theorem dX6_finish_2 : decode cX6_finish 2 = .ok (.putfield 57, 3) := by decide +kernel
theorem dX6_finish_5 : decode cX6_finish 5 = .ok (.iload_n 1, 1) := by decide +kernel
theorem dX6_finish_6 : decode cX6_finish 6 = .ok (.ireturn, 1) := by decide +kernel
theorem dX6_endWay_0 : decode cX6_endWay 0 = .ok (.aload_n 0, 1) := by decide +kernel
theorem dX6_endWay_1 : decode cX6_endWay 1 = .ok (.iconst 0, 1) := by decide +kernel
theorem dX6_endWay_2 : decode cX6_endWay 2 = .ok (.putfield 77, 3) := by decide +kernel
theorem dX6_endWay_5 : decode cX6_endWay 5 = .ok (.iconst 0, 1) := by decide +kernel
theorem dX6_endWay_6 : decode cX6_endWay 6 = .ok (.ireturn, 1) := by decide +kernel
theorem dX6_currentWay_0 : decode cX6_currentWay 0 = .ok (.aload_n 0, 1) := by decide +kernel
theorem dX6_currentWay_1 : decode cX6_currentWay 1 = .ok (.getfield 37, 3) := by decide +kernel
theorem dX6_currentWay_4 : decode cX6_currentWay 4 = .ok (.aload_n 0, 1) := by decide +kernel
theorem dX6_currentWay_5 : decode cX6_currentWay 5 = .ok (.getfield 74, 3) := by decide +kernel
theorem dX6_currentWay_8 : decode cX6_currentWay 8 = .ok (.ifCond .lt 22, 3) := by decide +kernel
theorem dX6_currentWay_11 : decode cX6_currentWay 11 = .ok (.aload_n 0, 1) := by decide +kernel
theorem dX6_currentWay_12 : decode cX6_currentWay 12 = .ok (.getfield 74, 3) := by decide +kernel
theorem dX6_currentWay_15 : decode cX6_currentWay 15 = .ok (.aload_n 0, 1) := by decide +kernel
theorem dX6_currentWay_16 : decode cX6_currentWay 16 = .ok (.getfield 37, 3) := by decide +kernel
theorem dX6_currentWay_19 : decode cX6_currentWay 19 = .ok (.arraylength, 1) := by decide +kernel
theorem dX6_currentWay_20 : decode cX6_currentWay 20 = .ok (.if_icmp .ge 10, 3) := by decide +kernel
theorem dX6_currentWay_23 : decode cX6_currentWay 23 = .ok (.aload_n 0, 1) := by decide +kernel
theorem dX6_currentWay_24 : decode cX6_currentWay 24 = .ok (.getfield 74, 3) := by decide +kernel
theorem dX6_currentWay_27 : decode cX6_currentWay 27 = .ok (.goto 4, 3) := by decide +kernel
theorem dX6_currentWay_30 : decode cX6_currentWay 30 = .ok (.iconst 0, 1) := by decide +kernel
theorem dX6_currentWay_31 : decode cX6_currentWay 31 = .ok (.aaload, 1) := by decide +kernel
theorem dX6_currentWay_32 : decode cX6_currentWay 32 = .ok (.areturn, 1) := by decide +kernel
theorem dX6_goBack_0 : decode cX6_goBack 0 = .ok (.aload_n 0, 1) := by decide +kernel
theorem dX6_goBack_1 : decode cX6_goBack 1 = .ok (.getfield 74, 3) := by decide +kernel
theorem dX6_goBack_4 : decode cX6_goBack 4 = .ok (.ifCond .le 8, 3) := by decide +kernel
theorem dX6_goBack_7 : decode cX6_goBack 7 = .ok (.aload_n 0, 1) := by decide +kernel
theorem dX6_goBack_8 : decode cX6_goBack 8 = .ok (.invokevirtual 137, 3) := by decide +kernel
theorem dX6_goBack_11 : decode cX6_goBack 11 = .ok (.ireturn, 1) := by decide +kernel
theorem dX6_goBack_12 : decode cX6_goBack 12 = .ok (.aload_n 0, 1) := by decide +kernel
theorem dX6_goBack_13 : decode cX6_goBack 13 = .ok (.getfield 28, 3) := by decide +kernel
theorem dX6_goBack_16 : decode cX6_goBack 16 = .ok (.getfield 63, 3) := by decide +kernel
theorem dX6_goBack_19 : decode cX6_goBack 19 = .ok (.ifCond .ne 8, 3) := by decide +kernel
theorem dX6_goBack_22 : decode cX6_goBack 22 = .ok (.aload_n 0, 1) := by decide +kernel
theorem dX6_goBack_23 : decode cX6_goBack 23 = .ok (.invokevirtual 141, 3) := by decide +kernel
theorem dX6_goBack_26 : decode cX6_goBack 26 = .ok (.ireturn, 1) := by decide +kernel
theorem dX6_goBack_27 : decode cX6_goBack 27 = .ok (.aload_n 0, 1) := by decide +kernel
theorem dX6_goBack_28 : decode cX6_goBack 28 = .ok (.invokevirtual 126, 3) := by decide +kernel
theorem dX6_goBack_31 : decode cX6_goBack 31 = .ok (.ifCond .ne 5, 3) := by decide +kernel
theorem dX6_goBack_34 : decode cX6_goBack 34 = .ok (.iconst 2, 1) := by decide +kernel
theorem dX6_goBack_35 : decode cX6_goBack 35 = .ok (.ireturn, 1) := by decide +kernel
theorem dX6_goBack_36 : decode cX6_goBack 36 = .ok (.aload_n 0, 1) := by decide +kernel
theorem dX6_goBack_37 : decode cX6_goBack 37 = .ok (.invokevirtual 144, 3) := by decide +kernel
theorem dX6_goBack_40 : decode cX6_goBack 40 = .ok (.istore_n 2, 1) := by decide +kernel
theorem dX6_goBack_41 : decode cX6_goBack 41 = .ok (.aload_n 0, 1) := by decide +kernel
theorem dX6_goBack_42 : decode cX6_goBack 42 = .ok (.getfield 28, 3) := by decide +kernel
theorem dX6_goBack_45 : decode cX6_goBack 45 = .ok (.iload_n 2, 1) := by decide +kernel
theorem dX6_goBack_46 : decode cX6_goBack 46 = .ok (.invokevirtual 102, 3) := by decide +kernel
theorem dX6_goBack_49 : decode cX6_goBack 49 = .ok (.astore_n 3, 1) := by decide +kernel
theorem dX6_goBack_50 : decode cX6_goBack 50 = .ok (.aload_n 3, 1) := by decide +kernel
theorem dX6_goBack_51 : decode cX6_goBack 51 = .ok (.ifnull 24, 3) := by decide +kernel
theorem dX6_goBack_54 : decode cX6_goBack 54 = .ok (.aload_n 0, 1) := by decide +kernel
theorem dX6_goBack_55 : decode cX6_goBack 55 = .ok (.bipush 6, 2) := by decide +kernel
theorem dX6_goBack_57 : decode cX6_goBack 57 = .ok (.iconst 1, 1) := by decide +kernel
theorem dX6_goBack_58 : decode cX6_goBack 58 = .ok (.invokevirtual 133, 3) := by decide +kernel
theorem dX6_goBack_61 : decode cX6_goBack 61 = .ok (.aload_n 0, 1) := by decide +kernel
theorem dX6_goBack_62 : decode cX6_goBack 62 = .ok (.bipush 8, 2) := by decide +kernel
theorem dX6_goBack_64 : decode cX6_goBack 64 = .ok (.aload_n 1, 1) := by decide +kernel
theorem dX6_goBack_65 : decode cX6_goBack 65 = .ok (.aload_n 3, 1) := by decide +kernel
theorem dX6_goBack_66 : decode cX6_goBack 66 = .ok (.getfield 147, 3) := by decide +kernel
theorem dX6_goBack_69 : decode cX6_goBack 69 = .ok (.invokevirtual 151, 3) := by decide +kernel
theorem dX6_goBack_72 : decode cX6_goBack 72 = .ok (.invokevirtual 133, 3) := by decide +kernel
theorem dX6_goBack_75 : decode cX6_goBack 75 = .ok (.aload_n 0, 1) := by decide +kernel
theorem dX6_goBack_76 : decode cX6_goBack 76 = .ok (.aload_n 0, 1) := by decide +kernel
theorem dX6_goBack_77 : decode cX6_goBack 77 = .ok (.getfield 28, 3) := by decide +kernel
theorem dX6_goBack_80 : decode cX6_goBack 80 = .ok (.iload_n 2, 1) := by decide +kernel
theorem dX6_goBack_81 : decode cX6_goBack 81 = .ok (.invokevirtual 154, 3) := by decide +kernel
theorem dX6_goBack_84 : decode cX6_goBack 84 = .ok (.iconst 0, 1) := by decide +kernel
theorem dX6_goBack_85 : decode cX6_goBack 85 = .ok (.ireturn, 1) := by decide +kernel
theorem dX6_goBackInNot_0 : decode cX6_goBackInNot 0 = .ok (.aload_n 0, 1) := by decide +kernel
theorem dX6_goBackInNot_1 : decode cX6_goBackInNot 1 = .ok (.getfield 32, 3) := by decide +kernel
theorem dX6_goBackInNot_4 : decode cX6_goBackInNot 4 = .ok (.getfield 63, 3) := by decide +kernel
theorem dX6_goBackInNot_7 : decode cX6_goBackInNot 7 = .ok (.aload_n 0, 1) := by decide +kernel
theorem dX6_goBackInNot_8 : decode cX6_goBackInNot 8 = .ok (.invokevirtual 158, 3) := by decide +kernel
theorem dX6_goBackInNot_11 : decode cX6_goBackInNot 11 = .ok (.if_icmp .gt 40, 3) := by decide +kernel
theorem dX6_goBackInNot_14 : decode cX6_goBackInNot 14 = .ok (.aload_n 0, 1) := by decide +kernel
theorem dX6_goBackInNot_15 : decode cX6_goBackInNot 15 = .ok (.dup, 1) := by decide +kernel
theorem dX6_goBackInNot_16 : decode cX6_goBackInNot 16 = .ok (.getfield 74, 3) := by decide +kernel
theorem dX6_goBackInNot_19 : decode cX6_goBackInNot 19 = .ok (.iconst 1, 1) := by decide +kernel
theorem dX6_goBackInNot_20 : decode cX6_goBackInNot 20 = .ok (.isub, 1) := by decide +kernel
theorem dX6_goBackInNot_21 : decode cX6_goBackInNot 21 = .ok (.putfield 74, 3) := by decide +kernel
theorem dX6_goBackInNot_24 : decode cX6_goBackInNot 24 = .ok (.aload_n 0, 1) := by decide +kernel
theorem dX6_goBackInNot_25 : decode cX6_goBackInNot 25 = .ok (.iconst 1, 1) := by decide +kernel
theorem dX6_goBackInNot_26 : decode cX6_goBackInNot 26 = .ok (.putfield 77, 3) := by decide +kernel
theorem dX6_goBackInNot_29 : decode cX6_goBackInNot 29 = .ok (.aload_n 0, 1) := by decide +kernel
theorem dX6_goBackInNot_30 : decode cX6_goBackInNot 30 = .ok (.invokevirtual 80, 3) := by decide +kernel
theorem dX6_goBackInNot_33 : decode cX6_goBackInNot 33 = .ok (.astore_n 1, 1) := by decide +kernel
theorem dX6_goBackInNot_34 : decode cX6_goBackInNot 34 = .ok (.aload_n 1, 1) := by decide +kernel
theorem dX6_goBackInNot_35 : decode cX6_goBackInNot 35 = .ok (.aload_n 0, 1) := by decide +kernel
theorem dX6_goBackInNot_36 : decode cX6_goBackInNot 36 = .ok (.getfield 12, 3) := by decide +kernel
theorem dX6_goBackInNot_39 : decode cX6_goBackInNot 39 = .ok (.aload_n 1, 1) := by decide +kernel
theorem dX6_goBackInNot_40 : decode cX6_goBackInNot 40 = .ok (.getfield 120, 3) := by decide +kernel
theorem dX6_goBackInNot_43 : decode cX6_goBackInNot 43 = .ok (.invokevirtual 161, 3) := by decide +kernel
theorem dX6_goBackInNot_46 : decode cX6_goBackInNot 46 = .ok (.putfield 120, 3) := by decide +kernel
theorem dX6_goBackInNot_49 : decode cX6_goBackInNot 49 = .ok (.iconst 0, 1) := by decide +kernel
theorem dX6_goBackInNot_50 : decode cX6_goBackInNot 50 = .ok (.ireturn, 1) := by decide +kernel
theorem dX6_goBackInNot_51 : decode cX6_goBackInNot 51 = .ok (.aload_n 0, 1) := by decide +kernel
theorem dX6_goBackInNot_52 : decode cX6_goBackInNot 52 = .ok (.invokevirtual 126, 3) := by decide +kernel
theorem dX6_goBackInNot_55 : decode cX6_goBackInNot 55 = .ok (.ifCond .ne 5, 3) := by decide +kernel
theorem dX6_goBackInNot_58 : decode cX6_goBackInNot 58 = .ok (.iconst 2, 1) := by decide +kernel
theorem dX6_goBackInNot_59 : decode cX6_goBackInNot 59 = .ok (.ireturn, 1) := by decide +kernel
theorem dX6_goBackInNot_60 : decode cX6_goBackInNot 60 = .ok (.aload_n 0, 1) := by decide +kernel
theorem dX6_goBackInNot_61 : decode cX6_goBackInNot 61 = .ok (.aload_n 0, 1) := by decide +kernel
theorem dX6_goBackInNot_62 : decode cX6_goBackInNot 62 = .ok (.getfield 32, 3) := by decide +kernel
theorem dX6_goBackInNot_65 : decode cX6_goBackInNot 65 = .ok (.aload_n 0, 1) := by decide +kernel
theorem dX6_goBackInNot_66 : decode cX6_goBackInNot 66 = .ok (.getfield 32, 3) := by decide +kernel
theorem dX6_goBackInNot_69 : decode cX6_goBackInNot 69 = .ok (.getfield 63, 3) := by decide +kernel
theorem dX6_goBackInNot_72 : decode cX6_goBackInNot 72 = .ok (.iconst 1, 1) := by decide +kernel
theorem dX6_goBackInNot_73 : decode cX6_goBackInNot 73 = .ok (.isub, 1) := by decide +kernel
theorem dX6_goBackInNot_74 : decode cX6_goBackInNot 74 = .ok (.invokevirtual 154, 3) := by decide +kernel
theorem dX6_goBackInNot_77 : decode cX6_goBackInNot 77 = .ok (.iconst 0, 1) := by decide +kernel
theorem dX6_goBackInNot_78 : decode cX6_goBackInNot 78 = .ok (.ireturn, 1) := by decide +kernel
theorem dX6_baseOfNot_0 : decode cX6_baseOfNot 0 = .ok (.aload_n 0, 1) := by decide +kernel
theorem dX6_baseOfNot_1 : decode cX6_baseOfNot 1 = .ok (.getfield 74, 3) := by decide +kernel
theorem dX6_baseOfNot_4 : decode cX6_baseOfNot 4 = .ok (.ifCond .lt 27, 3) := by decide +kernel
theorem dX6_baseOfNot_7 : decode cX6_baseOfNot 7 = .ok (.aload_n 0, 1) := by decide +kernel
theorem dX6_baseOfNot_8 : decode cX6_baseOfNot 8 = .ok (.getfield 74, 3) := by decide +kernel
theorem dX6_baseOfNot_11 : decode cX6_baseOfNot 11 = .ok (.aload_n 0, 1) := by decide +kernel
theorem dX6_baseOfNot_12 : decode cX6_baseOfNot 12 = .ok (.getfield 42, 3) := by decide +kernel
theorem dX6_baseOfNot_15 : decode cX6_baseOfNot 15 = .ok (.arraylength, 1) := by decide +kernel
theorem dX6_baseOfNot_16 : decode cX6_baseOfNot 16 = .ok (.if_icmp .ge 15, 3) := by decide +kernel
theorem dX6_baseOfNot_19 : decode cX6_baseOfNot 19 = .ok (.aload_n 0, 1) := by decide +kernel
theorem dX6_baseOfNot_20 : decode cX6_baseOfNot 20 = .ok (.getfield 42, 3) := by decide +kernel
theorem dX6_baseOfNot_23 : decode cX6_baseOfNot 23 = .ok (.aload_n 0, 1) := by decide +kernel
theorem dX6_baseOfNot_24 : decode cX6_baseOfNot 24 = .ok (.getfield 74, 3) := by decide +kernel
theorem dX6_baseOfNot_27 : decode cX6_baseOfNot 27 = .ok (.iaload, 1) := by decide +kernel
theorem dX6_baseOfNot_28 : decode cX6_baseOfNot 28 = .ok (.goto 4, 3) := by decide +kernel
theorem dX6_baseOfNot_31 : decode cX6_baseOfNot 31 = .ok (.iconst 0, 1) := by decide +kernel
theorem dX6_baseOfNot_32 : decode cX6_baseOfNot 32 = .ok (.ireturn, 1) := by decide +kernel
theorem dX6_goDeeper_0 : decode cX6_goDeeper 0 = .ok (.aload_n 0, 1) := by decide +kernel
theorem dX6_goDeeper_1 : decode cX6_goDeeper 1 = .ok (.getfield 53, 3) := by decide +kernel
theorem dX6_goDeeper_4 : decode cX6_goDeeper 4 = .ok (.iconst 5, 1) := by decide +kernel
theorem dX6_goDeeper_5 : decode cX6_goDeeper 5 = .ok (.if_icmp .ne 10, 3) := by decide +kernel
theorem dX6_goDeeper_8 : decode cX6_goDeeper 8 = .ok (.aload_n 0, 1) := by decide +kernel
theorem dX6_goDeeper_9 : decode cX6_goDeeper 9 = .ok (.getfield 70, 3) := by decide +kernel
theorem dX6_goDeeper_12 : decode cX6_goDeeper 12 = .ok (.ifCond .ne 9, 3) := by decide +kernel
theorem dX6_goDeeper_15 : decode cX6_goDeeper 15 = .ok (.aload_n 0, 1) := by decide +kernel
theorem dX6_goDeeper_16 : decode cX6_goDeeper 16 = .ok (.iconst 3, 1) := by decide +kernel
theorem dX6_goDeeper_17 : decode cX6_goDeeper 17 = .ok (.invokevirtual 164, 3) := by decide +kernel
theorem dX6_goDeeper_20 : decode cX6_goDeeper 20 = .ok (.ireturn, 1) := by decide +kernel
theorem dX6_goDeeper_21 : decode cX6_goDeeper 21 = .ok (.aload_n 0, 1) := by decide +kernel
theorem dX6_goDeeper_22 : decode cX6_goDeeper 22 = .ok (.dup, 1) := by decide +kernel
theorem dX6_goDeeper_23 : decode cX6_goDeeper 23 = .ok (.getfield 64, 3) := by decide +kernel
theorem dX6_goDeeper_26 : decode cX6_goDeeper 26 = .ok (.iconst 1, 1) := by decide +kernel
theorem dX6_goDeeper_27 : decode cX6_goDeeper 27 = .ok (.iadd, 1) := by decide +kernel
theorem dX6_goDeeper_28 : decode cX6_goDeeper 28 = .ok (.putfield 64, 3) := by decide +kernel
theorem dX6_goDeeper_31 : decode cX6_goDeeper 31 = .ok (.aload_n 0, 1) := by decide +kernel
theorem dX6_goDeeper_32 : decode cX6_goDeeper 32 = .ok (.invokevirtual 67, 3) := by decide +kernel
theorem dX6_goDeeper_35 : decode cX6_goDeeper 35 = .ok (.iconst 0, 1) := by decide +kernel
theorem dX6_goDeeper_36 : decode cX6_goDeeper 36 = .ok (.ireturn, 1) := by decide +kernel
theorem dX6_take_0 : decode cX6_take 0 = .ok (.aload_n 1, 1) := by decide +kernel
theorem dX6_take_1 : decode cX6_take 1 = .ok (.iload_n 2, 1) := by decide +kernel
theorem dX6_take_2 : decode cX6_take 2 = .ok (.invokevirtual 102, 3) := by decide +kernel
theorem dX6_take_5 : decode cX6_take 5 = .ok (.astore_n 3, 1) := by decide +kernel
theorem dX6_take_6 : decode cX6_take 6 = .ok (.aload_n 3, 1) := by decide +kernel
theorem dX6_take_7 : decode cX6_take 7 = .ok (.ifnonnull 4, 3) := by decide +kernel
theorem dX6_take_10 : decode cX6_take 10 = .ok (.return_, 1) := by decide +kernel
theorem dX6_take_11 : decode cX6_take 11 = .ok (.aload_n 0, 1) := by decide +kernel
theorem dX6_take_12 : decode cX6_take 12 = .ok (.invokevirtual 80, 3) := by decide +kernel
theorem dX6_take_15 : decode cX6_take 15 = .ok (.astore 4, 2) := by decide +kernel
theorem dX6_take_17 : decode cX6_take 17 = .ok (.aload_n 3, 1) := by decide +kernel
theorem dX6_take_18 : decode cX6_take 18 = .ok (.getfield 167, 3) := by decide +kernel
theorem dX6_take_21 : decode cX6_take 21 = .ok (.istore 5, 2) := by decide +kernel
theorem dX6_take_23 : decode cX6_take 23 = .ok (.aload_n 3, 1) := by decide +kernel
theorem dX6_take_24 : decode cX6_take 24 = .ok (.dup, 1) := by decide +kernel
theorem dX6_take_25 : decode cX6_take 25 = .ok (.getfield 167, 3) := by decide +kernel
theorem dX6_take_28 : decode cX6_take 28 = .ok (.iconst 1, 1) := by decide +kernel
theorem dX6_take_29 : decode cX6_take 29 = .ok (.iadd, 1) := by decide +kernel
theorem dX6_take_30 : decode cX6_take 30 = .ok (.putfield 167, 3) := by decide +kernel
theorem dX6_take_33 : decode cX6_take 33 = .ok (.aload 4, 2) := by decide +kernel
theorem dX6_take_35 : decode cX6_take 35 = .ok (.aload_n 3, 1) := by decide +kernel
theorem dX6_take_36 : decode cX6_take 36 = .ok (.getfield 147, 3) := by decide +kernel
theorem dX6_take_39 : decode cX6_take 39 = .ok (.invokevirtual 93, 3) := by decide +kernel
theorem dX6_take_42 : decode cX6_take 42 = .ok (.aload 4, 2) := by decide +kernel
theorem dX6_take_44 : decode cX6_take 44 = .ok (.dup, 1) := by decide +kernel
theorem dX6_take_45 : decode cX6_take 45 = .ok (.getfield 170, 3) := by decide +kernel
theorem dX6_take_48 : decode cX6_take 48 = .ok (.iconst 1, 1) := by decide +kernel
theorem dX6_take_49 : decode cX6_take 49 = .ok (.iload_n 2, 1) := by decide +kernel
theorem dX6_take_50 : decode cX6_take 50 = .ok (.ishl, 1) := by decide +kernel
theorem dX6_take_51 : decode cX6_take 51 = .ok (.ior, 1) := by decide +kernel
theorem dX6_take_52 : decode cX6_take 52 = .ok (.putfield 170, 3) := by decide +kernel
theorem dX6_take_55 : decode cX6_take 55 = .ok (.aload 4, 2) := by decide +kernel
theorem dX6_take_57 : decode cX6_take 57 = .ok (.dup, 1) := by decide +kernel
theorem dX6_take_58 : decode cX6_take 58 = .ok (.getfield 173, 3) := by decide +kernel
theorem dX6_take_61 : decode cX6_take 61 = .ok (.iconst 1, 1) := by decide +kernel
theorem dX6_take_62 : decode cX6_take 62 = .ok (.iadd, 1) := by decide +kernel
theorem dX6_take_63 : decode cX6_take 63 = .ok (.putfield 173, 3) := by decide +kernel
theorem dX6_take_66 : decode cX6_take 66 = .ok (.aload 4, 2) := by decide +kernel
theorem dX6_take_68 : decode cX6_take 68 = .ok (.dup, 1) := by decide +kernel
theorem dX6_take_69 : decode cX6_take 69 = .ok (.getfield 176, 3) := by decide +kernel
theorem dX6_take_72 : decode cX6_take 72 = .ok (.iload 5, 2) := by decide +kernel
theorem dX6_take_74 : decode cX6_take 74 = .ok (.ifCond .le 7, 3) := by decide +kernel
theorem dX6_take_77 : decode cX6_take 77 = .ok (.iconst 1, 1) := by decide +kernel
theorem dX6_take_78 : decode cX6_take 78 = .ok (.goto 4, 3) := by decide +kernel
theorem dX6_take_81 : decode cX6_take 81 = .ok (.iconst 0, 1) := by decide +kernel
theorem dX6_take_82 : decode cX6_take 82 = .ok (.iadd, 1) := by decide +kernel
theorem dX6_take_83 : decode cX6_take 83 = .ok (.putfield 176, 3) := by decide +kernel
theorem dX6_take_86 : decode cX6_take 86 = .ok (.aload 4, 2) := by decide +kernel
theorem dX6_take_88 : decode cX6_take 88 = .ok (.getfield 120, 3) := by decide +kernel
theorem dX6_take_91 : decode cX6_take 91 = .ok (.istore 6, 2) := by decide +kernel
theorem dX6_take_93 : decode cX6_take 93 = .ok (.aload_n 0, 1) := by decide +kernel
theorem dX6_take_94 : decode cX6_take 94 = .ok (.getfield 12, 3) := by decide +kernel
theorem dX6_take_97 : decode cX6_take 97 = .ok (.iload 6, 2) := by decide +kernel
theorem dX6_take_99 : decode cX6_take 99 = .ok (.invokevirtual 179, 3) := by decide +kernel
theorem dX6_take_102 : decode cX6_take 102 = .ok (.istore 7, 2) := by decide +kernel
theorem dX6_take_104 : decode cX6_take 104 = .ok (.iload 7, 2) := by decide +kernel
theorem dX6_take_106 : decode cX6_take 106 = .ok (.iconst 5, 1) := by decide +kernel
theorem dX6_take_107 : decode cX6_take 107 = .ok (.if_icmp .ne 35, 3) := by decide +kernel
theorem dX6_take_110 : decode cX6_take 110 = .ok (.aload 4, 2) := by decide +kernel
theorem dX6_take_112 : decode cX6_take 112 = .ok (.iload 6, 2) := by decide +kernel
theorem dX6_take_114 : decode cX6_take 114 = .ok (.aload_n 0, 1) := by decide +kernel
theorem dX6_take_115 : decode cX6_take 115 = .ok (.getfield 12, 3) := by decide +kernel
theorem dX6_take_118 : decode cX6_take 118 = .ok (.iload 6, 2) := by decide +kernel
theorem dX6_take_120 : decode cX6_take 120 = .ok (.iload 5, 2) := by decide +kernel
theorem dX6_take_122 : decode cX6_take 122 = .ok (.invokevirtual 182, 3) := by decide +kernel
theorem dX6_take_125 : decode cX6_take 125 = .ok (.aload_n 0, 1) := by decide +kernel
theorem dX6_take_126 : decode cX6_take 126 = .ok (.getfield 12, 3) := by decide +kernel
theorem dX6_take_129 : decode cX6_take 129 = .ok (.iload 6, 2) := by decide +kernel
theorem dX6_take_131 : decode cX6_take 131 = .ok (.invokevirtual 186, 3) := by decide +kernel
theorem dX6_take_134 : decode cX6_take 134 = .ok (.iconst 1, 1) := by decide +kernel
theorem dX6_take_135 : decode cX6_take 135 = .ok (.iadd, 1) := by decide +kernel
theorem dX6_take_136 : decode cX6_take 136 = .ok (.invokevirtual 189, 3) := by decide +kernel
theorem dX6_take_139 : decode cX6_take 139 = .ok (.goto 57, 3) := by decide +kernel
theorem dX6_take_142 : decode cX6_take 142 = .ok (.iload 7, 2) := by decide +kernel
theorem dX6_take_144 : decode cX6_take 144 = .ok (.iconst 3, 1) := by decide +kernel
theorem dX6_take_145 : decode cX6_take 145 = .ok (.if_icmp .ne 13, 3) := by decide +kernel
theorem dX6_take_148 : decode cX6_take 148 = .ok (.aload_n 3, 1) := by decide +kernel
theorem dX6_take_149 : decode cX6_take 149 = .ok (.getfield 193, 3) := by decide +kernel
theorem dX6_take_152 : decode cX6_take 152 = .ok (.iload 5, 2) := by decide +kernel
theorem dX6_take_154 : decode cX6_take 154 = .ok (.iadd, 1) := by decide +kernel
theorem dX6_take_155 : decode cX6_take 155 = .ok (.goto 9, 3) := by decide +kernel
theorem dX6_take_158 : decode cX6_take 158 = .ok (.aload_n 3, 1) := by decide +kernel
theorem dX6_take_159 : decode cX6_take 159 = .ok (.iload 5, 2) := by decide +kernel
theorem dX6_take_161 : decode cX6_take 161 = .ok (.invokevirtual 196, 3) := by decide +kernel
theorem dX6_take_164 : decode cX6_take 164 = .ok (.istore 8, 2) := by decide +kernel
theorem dX6_take_166 : decode cX6_take 166 = .ok (.aload 4, 2) := by decide +kernel
theorem dX6_take_168 : decode cX6_take 168 = .ok (.aload_n 0, 1) := by decide +kernel
theorem dX6_take_169 : decode cX6_take 169 = .ok (.getfield 12, 3) := by decide +kernel
theorem dX6_take_172 : decode cX6_take 172 = .ok (.iload 6, 2) := by decide +kernel
theorem dX6_take_174 : decode cX6_take 174 = .ok (.invokevirtual 199, 3) := by decide +kernel
theorem dX6_take_177 : decode cX6_take 177 = .ok (.iload 8, 2) := by decide +kernel
theorem dX6_take_179 : decode cX6_take 179 = .ok (.invokevirtual 202, 3) := by decide +kernel
theorem dX6_take_182 : decode cX6_take 182 = .ok (.aload 4, 2) := by decide +kernel
theorem dX6_take_184 : decode cX6_take 184 = .ok (.aload_n 0, 1) := by decide +kernel
theorem dX6_take_185 : decode cX6_take 185 = .ok (.getfield 12, 3) := by decide +kernel
theorem dX6_take_188 : decode cX6_take 188 = .ok (.iload 6, 2) := by decide +kernel
theorem dX6_take_190 : decode cX6_take 190 = .ok (.invokevirtual 161, 3) := by decide +kernel
theorem dX6_take_193 : decode cX6_take 193 = .ok (.putfield 120, 3) := by decide +kernel
theorem dX6_take_196 : decode cX6_take 196 = .ok (.aload_n 3, 1) := by decide +kernel
theorem dX6_take_197 : decode cX6_take 197 = .ok (.invokevirtual 205, 3) := by decide +kernel
theorem dX6_take_200 : decode cX6_take 200 = .ok (.ifCond .gt 10, 3) := by decide +kernel
theorem dX6_take_203 : decode cX6_take 203 = .ok (.aload_n 1, 1) := by decide +kernel
theorem dX6_take_204 : decode cX6_take 204 = .ok (.iload_n 2, 1) := by decide +kernel
theorem dX6_take_205 : decode cX6_take 205 = .ok (.aload 4, 2) := by decide +kernel
theorem dX6_take_207 : decode cX6_take 207 = .ok (.invokevirtual 208, 3) := by decide +kernel
theorem dX6_take_210 : decode cX6_take 210 = .ok (.aload_n 0, 1) := by decide +kernel
theorem dX6_take_211 : decode cX6_take 211 = .ok (.iconst 1, 1) := by decide +kernel
theorem dX6_take_212 : decode cX6_take 212 = .ok (.putfield 77, 3) := by decide +kernel
theorem dX6_take_215 : decode cX6_take 215 = .ok (.return_, 1) := by decide +kernel
theorem dX6_endPart_0 : decode cX6_endPart 0 = .ok (.aload_n 1, 1) := by decide +kernel
theorem dX6_endPart_1 : decode cX6_endPart 1 = .ok (.getfield 212, 3) := by decide +kernel
theorem dX6_endPart_4 : decode cX6_endPart 4 = .ok (.istore_n 2, 1) := by decide +kernel
theorem dX6_endPart_5 : decode cX6_endPart 5 = .ok (.aload_n 0, 1) := by decide +kernel
theorem dX6_endPart_6 : decode cX6_endPart 6 = .ok (.getfield 12, 3) := by decide +kernel
theorem dX6_endPart_9 : decode cX6_endPart 9 = .ok (.iload_n 2, 1) := by decide +kernel
theorem dX6_endPart_10 : decode cX6_endPart 10 = .ok (.invokevirtual 179, 3) := by decide +kernel
theorem dX6_endPart_13 : decode cX6_endPart 13 = .ok (.istore_n 3, 1) := by decide +kernel
theorem dX6_endPart_14 : decode cX6_endPart 14 = .ok (.aload_n 0, 1) := by decide +kernel
theorem dX6_endPart_15 : decode cX6_endPart 15 = .ok (.getfield 12, 3) := by decide +kernel
theorem dX6_endPart_18 : decode cX6_endPart 18 = .ok (.iload_n 2, 1) := by decide +kernel
theorem dX6_endPart_19 : decode cX6_endPart 19 = .ok (.invokevirtual 186, 3) := by decide +kernel
theorem dX6_endPart_22 : decode cX6_endPart 22 = .ok (.iconst 1, 1) := by decide +kernel
theorem dX6_endPart_23 : decode cX6_endPart 23 = .ok (.iadd, 1) := by decide +kernel
theorem dX6_endPart_24 : decode cX6_endPart 24 = .ok (.istore 4, 2) := by decide +kernel
theorem dX6_endPart_26 : decode cX6_endPart 26 = .ok (.iload_n 2, 1) := by decide +kernel
theorem dX6_endPart_27 : decode cX6_endPart 27 = .ok (.iconst (-1), 1) := by decide +kernel
theorem dX6_endPart_28 : decode cX6_endPart 28 = .ok (.if_icmp .eq 9, 3) := by decide +kernel
theorem dX6_endPart_31 : decode cX6_endPart 31 = .ok (.iload_n 3, 1) := by decide +kernel
theorem dX6_endPart_32 : decode cX6_endPart 32 = .ok (.bipush 7, 2) := by decide +kernel
theorem dX6_endPart_34 : decode cX6_endPart 34 = .ok (.if_icmp .ne 9, 3) := by decide +kernel
theorem dX6_endPart_37 : decode cX6_endPart 37 = .ok (.aload_n 0, 1) := by decide +kernel
theorem dX6_endPart_38 : decode cX6_endPart 38 = .ok (.aload_n 1, 1) := by decide +kernel
theorem dX6_endPart_39 : decode cX6_endPart 39 = .ok (.invokevirtual 215, 3) := by decide +kernel
theorem dX6_endPart_42 : decode cX6_endPart 42 = .ok (.ireturn, 1) := by decide +kernel
theorem dX6_endPart_43 : decode cX6_endPart 43 = .ok (.iload_n 3, 1) := by decide +kernel
theorem dX6_endPart_44 : decode cX6_endPart 44 = .ok (.bipush 9, 2) := by decide +kernel
theorem dX6_endPart_46 : decode cX6_endPart 46 = .ok (.if_icmp .ne 53, 3) := by decide +kernel
theorem dX6_endPart_49 : decode cX6_endPart 49 = .ok (.aload_n 1, 1) := by decide +kernel
theorem dX6_endPart_50 : decode cX6_endPart 50 = .ok (.iload 4, 2) := by decide +kernel
theorem dX6_endPart_52 : decode cX6_endPart 52 = .ok (.invokevirtual 218, 3) := by decide +kernel
theorem dX6_endPart_55 : decode cX6_endPart 55 = .ok (.ifCond .le 44, 3) := by decide +kernel
theorem dX6_endPart_58 : decode cX6_endPart 58 = .ok (.aload_n 0, 1) := by decide +kernel
theorem dX6_endPart_59 : decode cX6_endPart 59 = .ok (.invokevirtual 126, 3) := by decide +kernel
theorem dX6_endPart_62 : decode cX6_endPart 62 = .ok (.ifCond .ne 5, 3) := by decide +kernel
theorem dX6_endPart_65 : decode cX6_endPart 65 = .ok (.iconst 2, 1) := by decide +kernel
theorem dX6_endPart_66 : decode cX6_endPart 66 = .ok (.ireturn, 1) := by decide +kernel
theorem dX6_endPart_67 : decode cX6_endPart 67 = .ok (.aload_n 1, 1) := by decide +kernel
theorem dX6_endPart_68 : decode cX6_endPart 68 = .ok (.iload 4, 2) := by decide +kernel
theorem dX6_endPart_70 : decode cX6_endPart 70 = .ok (.aload_n 1, 1) := by decide +kernel
theorem dX6_endPart_71 : decode cX6_endPart 71 = .ok (.iload 4, 2) := by decide +kernel
theorem dX6_endPart_73 : decode cX6_endPart 73 = .ok (.invokevirtual 218, 3) := by decide +kernel
theorem dX6_endPart_76 : decode cX6_endPart 76 = .ok (.iconst 1, 1) := by decide +kernel
theorem dX6_endPart_77 : decode cX6_endPart 77 = .ok (.isub, 1) := by decide +kernel
theorem dX6_endPart_78 : decode cX6_endPart 78 = .ok (.invokevirtual 221, 3) := by decide +kernel
theorem dX6_endPart_81 : decode cX6_endPart 81 = .ok (.aload_n 1, 1) := by decide +kernel
theorem dX6_endPart_82 : decode cX6_endPart 82 = .ok (.iload_n 2, 1) := by decide +kernel
theorem dX6_endPart_83 : decode cX6_endPart 83 = .ok (.aload_n 0, 1) := by decide +kernel
theorem dX6_endPart_84 : decode cX6_endPart 84 = .ok (.getfield 12, 3) := by decide +kernel
theorem dX6_endPart_87 : decode cX6_endPart 87 = .ok (.iload_n 2, 1) := by decide +kernel
theorem dX6_endPart_88 : decode cX6_endPart 88 = .ok (.iconst 0, 1) := by decide +kernel
theorem dX6_endPart_89 : decode cX6_endPart 89 = .ok (.invokevirtual 182, 3) := by decide +kernel
theorem dX6_endPart_92 : decode cX6_endPart 92 = .ok (.iload 4, 2) := by decide +kernel
theorem dX6_endPart_94 : decode cX6_endPart 94 = .ok (.invokevirtual 189, 3) := by decide +kernel
theorem dX6_endPart_97 : decode cX6_endPart 97 = .ok (.iconst 0, 1) := by decide +kernel
theorem dX6_endPart_98 : decode cX6_endPart 98 = .ok (.ireturn, 1) := by decide +kernel
theorem dX6_endPart_99 : decode cX6_endPart 99 = .ok (.iload_n 3, 1) := by decide +kernel
theorem dX6_endPart_100 : decode cX6_endPart 100 = .ok (.bipush 6, 2) := by decide +kernel
theorem dX6_endPart_102 : decode cX6_endPart 102 = .ok (.if_icmp .ne 14, 3) := by decide +kernel
theorem dX6_endPart_105 : decode cX6_endPart 105 = .ok (.aload_n 0, 1) := by decide +kernel
theorem dX6_endPart_106 : decode cX6_endPart 106 = .ok (.aload_n 1, 1) := by decide +kernel
theorem dX6_endPart_107 : decode cX6_endPart 107 = .ok (.aload_n 1, 1) := by decide +kernel
theorem dX6_endPart_108 : decode cX6_endPart 108 = .ok (.iload 4, 2) := by decide +kernel
theorem dX6_endPart_110 : decode cX6_endPart 110 = .ok (.invokevirtual 224, 3) := by decide +kernel
theorem dX6_endPart_113 : decode cX6_endPart 113 = .ok (.invokevirtual 227, 3) := by decide +kernel
theorem dX6_endPart_116 : decode cX6_endPart 116 = .ok (.aload_n 1, 1) := by decide +kernel
theorem dX6_endPart_117 : decode cX6_endPart 117 = .ok (.aload_n 0, 1) := by decide +kernel
theorem dX6_endPart_118 : decode cX6_endPart 118 = .ok (.getfield 12, 3) := by decide +kernel
theorem dX6_endPart_121 : decode cX6_endPart 121 = .ok (.iload_n 2, 1) := by decide +kernel
theorem dX6_endPart_122 : decode cX6_endPart 122 = .ok (.invokevirtual 231, 3) := by decide +kernel
theorem dX6_endPart_125 : decode cX6_endPart 125 = .ok (.putfield 212, 3) := by decide +kernel
theorem dX6_endPart_128 : decode cX6_endPart 128 = .ok (.aload_n 1, 1) := by decide +kernel
theorem dX6_endPart_129 : decode cX6_endPart 129 = .ok (.aload_n 0, 1) := by decide +kernel
theorem dX6_endPart_130 : decode cX6_endPart 130 = .ok (.getfield 12, 3) := by decide +kernel
theorem dX6_endPart_133 : decode cX6_endPart 133 = .ok (.iload_n 2, 1) := by decide +kernel
theorem dX6_endPart_134 : decode cX6_endPart 134 = .ok (.invokevirtual 161, 3) := by decide +kernel
theorem dX6_endPart_137 : decode cX6_endPart 137 = .ok (.putfield 120, 3) := by decide +kernel
theorem dX6_endPart_140 : decode cX6_endPart 140 = .ok (.iconst 0, 1) := by decide +kernel
theorem dX6_endPart_141 : decode cX6_endPart 141 = .ok (.ireturn, 1) := by decide +kernel
theorem dX6_through_0 : decode cX6_through 0 = .ok (.aload_n 0, 1) := by decide +kernel
theorem dX6_through_1 : decode cX6_through 1 = .ok (.iconst 0, 1) := by decide +kernel
theorem dX6_through_2 : decode cX6_through 2 = .ok (.putfield 77, 3) := by decide +kernel
theorem dX6_through_5 : decode cX6_through 5 = .ok (.aload_n 0, 1) := by decide +kernel
theorem dX6_through_6 : decode cX6_through 6 = .ok (.getfield 74, 3) := by decide +kernel
theorem dX6_through_9 : decode cX6_through 9 = .ok (.ifCond .le 26, 3) := by decide +kernel
theorem dX6_through_12 : decode cX6_through 12 = .ok (.aload_n 0, 1) := by decide +kernel
theorem dX6_through_13 : decode cX6_through 13 = .ok (.getfield 32, 3) := by decide +kernel
theorem dX6_through_16 : decode cX6_through 16 = .ok (.aload_n 0, 1) := by decide +kernel
theorem dX6_through_17 : decode cX6_through 17 = .ok (.invokevirtual 158, 3) := by decide +kernel
theorem dX6_through_20 : decode cX6_through 20 = .ok (.putfield 63, 3) := by decide +kernel
theorem dX6_through_23 : decode cX6_through 23 = .ok (.aload_n 0, 1) := by decide +kernel
theorem dX6_through_24 : decode cX6_through 24 = .ok (.dup, 1) := by decide +kernel
theorem dX6_through_25 : decode cX6_through 25 = .ok (.getfield 74, 3) := by decide +kernel
theorem dX6_through_28 : decode cX6_through 28 = .ok (.iconst 1, 1) := by decide +kernel
theorem dX6_through_29 : decode cX6_through 29 = .ok (.isub, 1) := by decide +kernel
theorem dX6_through_30 : decode cX6_through 30 = .ok (.putfield 74, 3) := by decide +kernel
theorem dX6_through_33 : decode cX6_through 33 = .ok (.iconst 0, 1) := by decide +kernel
theorem dX6_through_34 : decode cX6_through 34 = .ok (.ireturn, 1) := by decide +kernel
theorem dX6_through_35 : decode cX6_through 35 = .ok (.aload_n 0, 1) := by decide +kernel
theorem dX6_through_36 : decode cX6_through 36 = .ok (.getfield 53, 3) := by decide +kernel
theorem dX6_through_39 : decode cX6_through 39 = .ok (.iconst 5, 1) := by decide +kernel
theorem dX6_through_40 : decode cX6_through 40 = .ok (.if_icmp .ne 16, 3) := by decide +kernel
theorem dX6_through_43 : decode cX6_through 43 = .ok (.aload_n 1, 1) := by decide +kernel
theorem dX6_through_44 : decode cX6_through 44 = .ok (.getfield 173, 3) := by decide +kernel
theorem dX6_through_47 : decode cX6_through 47 = .ok (.aload_n 0, 1) := by decide +kernel
theorem dX6_through_48 : decode cX6_through 48 = .ok (.getfield 64, 3) := by decide +kernel
theorem dX6_through_51 : decode cX6_through 51 = .ok (.if_icmp .eq 5, 3) := by decide +kernel
theorem dX6_through_54 : decode cX6_through 54 = .ok (.iconst 0, 1) := by decide +kernel
theorem dX6_through_55 : decode cX6_through 55 = .ok (.ireturn, 1) := by decide +kernel
theorem dX6_through_56 : decode cX6_through 56 = .ok (.aload_n 0, 1) := by decide +kernel
theorem dX6_through_57 : decode cX6_through 57 = .ok (.getfield 21, 3) := by decide +kernel
theorem dX6_through_60 : decode cX6_through 60 = .ok (.aload_n 1, 1) := by decide +kernel
theorem dX6_through_61 : decode cX6_through 61 = .ok (.aload_n 0, 1) := by decide +kernel
theorem dX6_through_62 : decode cX6_through 62 = .ok (.getfield 12, 3) := by decide +kernel
theorem dX6_through_65 : decode cX6_through 65 = .ok (.aload_n 1, 1) := by decide +kernel
theorem dX6_through_66 : decode cX6_through 66 = .ok (.getfield 234, 3) := by decide +kernel
theorem dX6_through_69 : decode cX6_through 69 = .ok (.invokevirtual 237, 3) := by decide +kernel
theorem dX6_through_72 : decode cX6_through 72 = .ok (.aload_n 0, 1) := by decide +kernel
theorem dX6_through_73 : decode cX6_through 73 = .ok (.iconst 2, 1) := by decide +kernel
theorem dX6_through_74 : decode cX6_through 74 = .ok (.invokevirtual 241, 3) := by decide +kernel
theorem dX6_through_77 : decode cX6_through 77 = .ok (.invokevirtual 244, 3) := by decide +kernel
theorem dX6_through_80 : decode cX6_through 80 = .ok (.istore_n 2, 1) := by decide +kernel
theorem dX6_through_81 : decode cX6_through 81 = .ok (.iload_n 2, 1) := by decide +kernel
theorem dX6_through_82 : decode cX6_through 82 = .ok (.ifCond .eq 7, 3) := by decide +kernel
theorem dX6_through_85 : decode cX6_through 85 = .ok (.iconst 1, 1) := by decide +kernel
theorem dX6_through_86 : decode cX6_through 86 = .ok (.goto 8, 3) := by decide +kernel
theorem dX6_through_89 : decode cX6_through 89 = .ok (.aload_n 0, 1) := by decide +kernel
theorem dX6_through_90 : decode cX6_through 90 = .ok (.iconst 5, 1) := by decide +kernel
theorem dX6_through_91 : decode cX6_through 91 = .ok (.invokevirtual 164, 3) := by decide +kernel
theorem dX6_through_94 : decode cX6_through 94 = .ok (.ireturn, 1) := by decide +kernel
theorem dX6_beginStatement_0 : decode cX6_beginStatement 0 = .ok (.aload_n 1, 1) := by decide +kernel
theorem dX6_beginStatement_1 : decode cX6_beginStatement 1 = .ok (.getfield 120, 3) := by decide +kernel
theorem dX6_beginStatement_4 : decode cX6_beginStatement 4 = .ok (.istore_n 2, 1) := by decide +kernel
theorem dX6_beginStatement_5 : decode cX6_beginStatement 5 = .ok (.aload_n 0, 1) := by decide +kernel
theorem dX6_beginStatement_6 : decode cX6_beginStatement 6 = .ok (.getfield 12, 3) := by decide +kernel
theorem dX6_beginStatement_9 : decode cX6_beginStatement 9 = .ok (.iload_n 2, 1) := by decide +kernel
theorem dX6_beginStatement_10 : decode cX6_beginStatement 10 = .ok (.invokevirtual 179, 3) := by decide +kernel
theorem dX6_beginStatement_13 : decode cX6_beginStatement 13 = .ok (.tableswitch 106 1 8 #[47, 54, 61, 61, 61, 106, 68, 75], 47) := by decide +kernel
theorem dX6_beginStatement_60 : decode cX6_beginStatement 60 = .ok (.aload_n 0, 1) := by decide +kernel
theorem dX6_beginStatement_61 : decode cX6_beginStatement 61 = .ok (.aload_n 1, 1) := by decide +kernel
theorem dX6_beginStatement_62 : decode cX6_beginStatement 62 = .ok (.iload_n 2, 1) := by decide +kernel
theorem dX6_beginStatement_63 : decode cX6_beginStatement 63 = .ok (.invokevirtual 248, 3) := by decide +kernel
theorem dX6_beginStatement_66 : decode cX6_beginStatement 66 = .ok (.ireturn, 1) := by decide +kernel
theorem dX6_beginStatement_67 : decode cX6_beginStatement 67 = .ok (.aload_n 0, 1) := by decide +kernel
theorem dX6_beginStatement_68 : decode cX6_beginStatement 68 = .ok (.aload_n 1, 1) := by decide +kernel
theorem dX6_beginStatement_69 : decode cX6_beginStatement 69 = .ok (.iload_n 2, 1) := by decide +kernel
theorem dX6_beginStatement_70 : decode cX6_beginStatement 70 = .ok (.invokevirtual 252, 3) := by decide +kernel
theorem dX6_beginStatement_73 : decode cX6_beginStatement 73 = .ok (.ireturn, 1) := by decide +kernel
theorem dX6_beginStatement_74 : decode cX6_beginStatement 74 = .ok (.aload_n 0, 1) := by decide +kernel
theorem dX6_beginStatement_75 : decode cX6_beginStatement 75 = .ok (.aload_n 1, 1) := by decide +kernel
theorem dX6_beginStatement_76 : decode cX6_beginStatement 76 = .ok (.iload_n 2, 1) := by decide +kernel
theorem dX6_beginStatement_77 : decode cX6_beginStatement 77 = .ok (.invokevirtual 255, 3) := by decide +kernel
theorem dX6_beginStatement_80 : decode cX6_beginStatement 80 = .ok (.ireturn, 1) := by decide +kernel
theorem dX6_beginStatement_81 : decode cX6_beginStatement 81 = .ok (.aload_n 0, 1) := by decide +kernel
theorem dX6_beginStatement_82 : decode cX6_beginStatement 82 = .ok (.aload_n 1, 1) := by decide +kernel
theorem dX6_beginStatement_83 : decode cX6_beginStatement 83 = .ok (.iload_n 2, 1) := by decide +kernel
theorem dX6_beginStatement_84 : decode cX6_beginStatement 84 = .ok (.invokevirtual 258, 3) := by decide +kernel
theorem dX6_beginStatement_87 : decode cX6_beginStatement 87 = .ok (.ireturn, 1) := by decide +kernel
theorem dX6_beginStatement_88 : decode cX6_beginStatement 88 = .ok (.aload_n 0, 1) := by decide +kernel
theorem dX6_beginStatement_89 : decode cX6_beginStatement 89 = .ok (.aload_n 1, 1) := by decide +kernel
theorem dX6_beginStatement_90 : decode cX6_beginStatement 90 = .ok (.aload_n 1, 1) := by decide +kernel
theorem dX6_beginStatement_91 : decode cX6_beginStatement 91 = .ok (.aload_n 0, 1) := by decide +kernel
theorem dX6_beginStatement_92 : decode cX6_beginStatement 92 = .ok (.getfield 12, 3) := by decide +kernel
theorem dX6_beginStatement_95 : decode cX6_beginStatement 95 = .ok (.iload_n 2, 1) := by decide +kernel
theorem dX6_beginStatement_96 : decode cX6_beginStatement 96 = .ok (.invokevirtual 186, 3) := by decide +kernel
theorem dX6_beginStatement_99 : decode cX6_beginStatement 99 = .ok (.invokevirtual 224, 3) := by decide +kernel
theorem dX6_beginStatement_102 : decode cX6_beginStatement 102 = .ok (.invokevirtual 227, 3) := by decide +kernel
theorem dX6_beginStatement_105 : decode cX6_beginStatement 105 = .ok (.aload_n 1, 1) := by decide +kernel
theorem dX6_beginStatement_106 : decode cX6_beginStatement 106 = .ok (.aload_n 0, 1) := by decide +kernel
theorem dX6_beginStatement_107 : decode cX6_beginStatement 107 = .ok (.getfield 12, 3) := by decide +kernel
theorem dX6_beginStatement_110 : decode cX6_beginStatement 110 = .ok (.iload_n 2, 1) := by decide +kernel
theorem dX6_beginStatement_111 : decode cX6_beginStatement 111 = .ok (.invokevirtual 161, 3) := by decide +kernel
theorem dX6_beginStatement_114 : decode cX6_beginStatement 114 = .ok (.putfield 120, 3) := by decide +kernel
theorem dX6_beginStatement_117 : decode cX6_beginStatement 117 = .ok (.iconst 0, 1) := by decide +kernel
theorem dX6_beginStatement_118 : decode cX6_beginStatement 118 = .ok (.ireturn, 1) := by decide +kernel
theorem dX6_beginStatement_119 : decode cX6_beginStatement 119 = .ok (.aload_n 1, 1) := by decide +kernel
theorem dX6_beginStatement_120 : decode cX6_beginStatement 120 = .ok (.aload_n 0, 1) := by decide +kernel
theorem dX6_beginStatement_121 : decode cX6_beginStatement 121 = .ok (.getfield 12, 3) := by decide +kernel
theorem dX6_beginStatement_124 : decode cX6_beginStatement 124 = .ok (.iload_n 2, 1) := by decide +kernel
theorem dX6_beginStatement_125 : decode cX6_beginStatement 125 = .ok (.invokevirtual 186, 3) := by decide +kernel
theorem dX6_beginStatement_128 : decode cX6_beginStatement 128 = .ok (.iconst 1, 1) := by decide +kernel
theorem dX6_beginStatement_129 : decode cX6_beginStatement 129 = .ok (.iadd, 1) := by decide +kernel
theorem dX6_beginStatement_130 : decode cX6_beginStatement 130 = .ok (.aload_n 0, 1) := by decide +kernel
theorem dX6_beginStatement_131 : decode cX6_beginStatement 131 = .ok (.getfield 12, 3) := by decide +kernel
theorem dX6_beginStatement_134 : decode cX6_beginStatement 134 = .ok (.iload_n 2, 1) := by decide +kernel
theorem dX6_beginStatement_135 : decode cX6_beginStatement 135 = .ok (.invokevirtual 199, 3) := by decide +kernel
theorem dX6_beginStatement_138 : decode cX6_beginStatement 138 = .ok (.iconst 1, 1) := by decide +kernel
theorem dX6_beginStatement_139 : decode cX6_beginStatement 139 = .ok (.isub, 1) := by decide +kernel
theorem dX6_beginStatement_140 : decode cX6_beginStatement 140 = .ok (.invokevirtual 221, 3) := by decide +kernel
theorem dX6_beginStatement_143 : decode cX6_beginStatement 143 = .ok (.aload_n 1, 1) := by decide +kernel
theorem dX6_beginStatement_144 : decode cX6_beginStatement 144 = .ok (.iload_n 2, 1) := by decide +kernel
theorem dX6_beginStatement_145 : decode cX6_beginStatement 145 = .ok (.aload_n 0, 1) := by decide +kernel
theorem dX6_beginStatement_146 : decode cX6_beginStatement 146 = .ok (.getfield 12, 3) := by decide +kernel
theorem dX6_beginStatement_149 : decode cX6_beginStatement 149 = .ok (.iload_n 2, 1) := by decide +kernel
theorem dX6_beginStatement_150 : decode cX6_beginStatement 150 = .ok (.iconst 0, 1) := by decide +kernel
theorem dX6_beginStatement_151 : decode cX6_beginStatement 151 = .ok (.invokevirtual 182, 3) := by decide +kernel
theorem dX6_beginStatement_154 : decode cX6_beginStatement 154 = .ok (.aload_n 0, 1) := by decide +kernel
theorem dX6_beginStatement_155 : decode cX6_beginStatement 155 = .ok (.getfield 12, 3) := by decide +kernel
theorem dX6_beginStatement_158 : decode cX6_beginStatement 158 = .ok (.iload_n 2, 1) := by decide +kernel
theorem dX6_beginStatement_159 : decode cX6_beginStatement 159 = .ok (.invokevirtual 186, 3) := by decide +kernel
theorem dX6_beginStatement_162 : decode cX6_beginStatement 162 = .ok (.iconst 1, 1) := by decide +kernel
theorem dX6_beginStatement_163 : decode cX6_beginStatement 163 = .ok (.iadd, 1) := by decide +kernel
theorem dX6_beginStatement_164 : decode cX6_beginStatement 164 = .ok (.invokevirtual 189, 3) := by decide +kernel
theorem dX6_beginStatement_167 : decode cX6_beginStatement 167 = .ok (.iconst 0, 1) := by decide +kernel
theorem dX6_beginStatement_168 : decode cX6_beginStatement 168 = .ok (.ireturn, 1) := by decide +kernel
theorem dX6_assign_0 : decode cX6_assign 0 = .ok (.aload_n 0, 1) := by decide +kernel
theorem dX6_assign_1 : decode cX6_assign 1 = .ok (.getfield 12, 3) := by decide +kernel
theorem dX6_assign_4 : decode cX6_assign 4 = .ok (.getfield 261, 3) := by decide +kernel
theorem dX6_assign_7 : decode cX6_assign 7 = .ok (.aload_n 0, 1) := by decide +kernel
theorem dX6_assign_8 : decode cX6_assign 8 = .ok (.getfield 12, 3) := by decide +kernel
theorem dX6_assign_11 : decode cX6_assign 11 = .ok (.iload_n 2, 1) := by decide +kernel
theorem dX6_assign_12 : decode cX6_assign 12 = .ok (.invokevirtual 265, 3) := by decide +kernel
theorem dX6_assign_15 : decode cX6_assign 15 = .ok (.aload_n 1, 1) := by decide +kernel
theorem dX6_assign_16 : decode cX6_assign 16 = .ok (.getfield 234, 3) := by decide +kernel
theorem dX6_assign_19 : decode cX6_assign 19 = .ok (.invokevirtual 268, 3) := by decide +kernel
theorem dX6_assign_22 : decode cX6_assign 22 = .ok (.istore_n 3, 1) := by decide +kernel
theorem dX6_assign_23 : decode cX6_assign 23 = .ok (.iload_n 3, 1) := by decide +kernel
theorem dX6_assign_24 : decode cX6_assign 24 = .ok (.ldc_w 274, 3) := by decide +kernel
theorem dX6_assign_27 : decode cX6_assign 27 = .ok (.if_icmp .ne 8, 3) := by decide +kernel
theorem dX6_assign_30 : decode cX6_assign 30 = .ok (.aload_n 0, 1) := by decide +kernel
theorem dX6_assign_31 : decode cX6_assign 31 = .ok (.invokevirtual 275, 3) := by decide +kernel
theorem dX6_assign_34 : decode cX6_assign 34 = .ok (.ireturn, 1) := by decide +kernel
theorem dX6_assign_35 : decode cX6_assign 35 = .ok (.aload_n 1, 1) := by decide +kernel
theorem dX6_assign_36 : decode cX6_assign 36 = .ok (.aload_n 0, 1) := by decide +kernel
theorem dX6_assign_37 : decode cX6_assign 37 = .ok (.getfield 12, 3) := by decide +kernel
theorem dX6_assign_40 : decode cX6_assign 40 = .ok (.iload_n 2, 1) := by decide +kernel
theorem dX6_assign_41 : decode cX6_assign 41 = .ok (.invokevirtual 199, 3) := by decide +kernel
theorem dX6_assign_44 : decode cX6_assign 44 = .ok (.iload_n 3, 1) := by decide +kernel
theorem dX6_assign_45 : decode cX6_assign 45 = .ok (.invokevirtual 202, 3) := by decide +kernel
theorem dX6_assign_48 : decode cX6_assign 48 = .ok (.aload_n 1, 1) := by decide +kernel
theorem dX6_assign_49 : decode cX6_assign 49 = .ok (.aload_n 0, 1) := by decide +kernel
theorem dX6_assign_50 : decode cX6_assign 50 = .ok (.getfield 12, 3) := by decide +kernel
theorem dX6_assign_53 : decode cX6_assign 53 = .ok (.iload_n 2, 1) := by decide +kernel
theorem dX6_assign_54 : decode cX6_assign 54 = .ok (.invokevirtual 161, 3) := by decide +kernel
theorem dX6_assign_57 : decode cX6_assign 57 = .ok (.putfield 120, 3) := by decide +kernel
theorem dX6_assign_60 : decode cX6_assign 60 = .ok (.iconst 0, 1) := by decide +kernel
theorem dX6_assign_61 : decode cX6_assign 61 = .ok (.ireturn, 1) := by decide +kernel
theorem dX6_test_0 : decode cX6_test 0 = .ok (.aload_n 0, 1) := by decide +kernel
theorem dX6_test_1 : decode cX6_test 1 = .ok (.getfield 12, 3) := by decide +kernel
theorem dX6_test_4 : decode cX6_test 4 = .ok (.iload_n 2, 1) := by decide +kernel
theorem dX6_test_5 : decode cX6_test 5 = .ok (.invokevirtual 265, 3) := by decide +kernel
theorem dX6_test_8 : decode cX6_test 8 = .ok (.istore_n 3, 1) := by decide +kernel
theorem dX6_test_9 : decode cX6_test 9 = .ok (.aload_n 0, 1) := by decide +kernel
theorem dX6_test_10 : decode cX6_test 10 = .ok (.getfield 12, 3) := by decide +kernel
theorem dX6_test_13 : decode cX6_test 13 = .ok (.getfield 261, 3) := by decide +kernel
theorem dX6_test_16 : decode cX6_test 16 = .ok (.iload_n 3, 1) := by decide +kernel
theorem dX6_test_17 : decode cX6_test 17 = .ok (.aload_n 1, 1) := by decide +kernel
theorem dX6_test_18 : decode cX6_test 18 = .ok (.getfield 234, 3) := by decide +kernel
theorem dX6_test_21 : decode cX6_test 21 = .ok (.invokevirtual 268, 3) := by decide +kernel
theorem dX6_test_24 : decode cX6_test 24 = .ok (.istore 4, 2) := by decide +kernel
theorem dX6_test_26 : decode cX6_test 26 = .ok (.aload_n 0, 1) := by decide +kernel
theorem dX6_test_27 : decode cX6_test 27 = .ok (.getfield 12, 3) := by decide +kernel
theorem dX6_test_30 : decode cX6_test 30 = .ok (.getfield 261, 3) := by decide +kernel
theorem dX6_test_33 : decode cX6_test 33 = .ok (.iload_n 3, 1) := by decide +kernel
theorem dX6_test_34 : decode cX6_test 34 = .ok (.iconst 1, 1) := by decide +kernel
theorem dX6_test_35 : decode cX6_test 35 = .ok (.iadd, 1) := by decide +kernel
theorem dX6_test_36 : decode cX6_test 36 = .ok (.aload_n 1, 1) := by decide +kernel
theorem dX6_test_37 : decode cX6_test 37 = .ok (.getfield 234, 3) := by decide +kernel
theorem dX6_test_40 : decode cX6_test 40 = .ok (.invokevirtual 268, 3) := by decide +kernel
theorem dX6_test_43 : decode cX6_test 43 = .ok (.istore 5, 2) := by decide +kernel
theorem dX6_test_45 : decode cX6_test 45 = .ok (.iload 4, 2) := by decide +kernel
theorem dX6_test_47 : decode cX6_test 47 = .ok (.ldc_w 274, 3) := by decide +kernel
theorem dX6_test_50 : decode cX6_test 50 = .ok (.if_icmp .eq 29, 3) := by decide +kernel
theorem dX6_test_53 : decode cX6_test 53 = .ok (.iload 5, 2) := by decide +kernel
theorem dX6_test_55 : decode cX6_test 55 = .ok (.ldc_w 274, 3) := by decide +kernel
theorem dX6_test_58 : decode cX6_test 58 = .ok (.if_icmp .eq 21, 3) := by decide +kernel
theorem dX6_test_61 : decode cX6_test 61 = .ok (.iload 4, 2) := by decide +kernel
theorem dX6_test_63 : decode cX6_test 63 = .ok (.aload_n 0, 1) := by decide +kernel
theorem dX6_test_64 : decode cX6_test 64 = .ok (.getfield 12, 3) := by decide +kernel
theorem dX6_test_67 : decode cX6_test 67 = .ok (.iload_n 2, 1) := by decide +kernel
theorem dX6_test_68 : decode cX6_test 68 = .ok (.invokevirtual 199, 3) := by decide +kernel
theorem dX6_test_71 : decode cX6_test 71 = .ok (.iload 5, 2) := by decide +kernel
theorem dX6_test_73 : decode cX6_test 73 = .ok (.invokestatic 278, 3) := by decide +kernel
theorem dX6_test_76 : decode cX6_test 76 = .ok (.ifCond .ne 8, 3) := by decide +kernel
theorem dX6_test_79 : decode cX6_test 79 = .ok (.aload_n 0, 1) := by decide +kernel
theorem dX6_test_80 : decode cX6_test 80 = .ok (.invokevirtual 275, 3) := by decide +kernel
theorem dX6_test_83 : decode cX6_test 83 = .ok (.ireturn, 1) := by decide +kernel
theorem dX6_test_84 : decode cX6_test 84 = .ok (.aload_n 1, 1) := by decide +kernel
theorem dX6_test_85 : decode cX6_test 85 = .ok (.aload_n 0, 1) := by decide +kernel
theorem dX6_test_86 : decode cX6_test 86 = .ok (.getfield 12, 3) := by decide +kernel
theorem dX6_test_89 : decode cX6_test 89 = .ok (.iload_n 2, 1) := by decide +kernel
theorem dX6_test_90 : decode cX6_test 90 = .ok (.invokevirtual 161, 3) := by decide +kernel
theorem dX6_test_93 : decode cX6_test 93 = .ok (.putfield 120, 3) := by decide +kernel
theorem dX6_test_96 : decode cX6_test 96 = .ok (.iconst 0, 1) := by decide +kernel
theorem dX6_test_97 : decode cX6_test 97 = .ok (.ireturn, 1) := by decide +kernel
theorem dX6_isSo_0 : decode cX6_isSo 0 = .ok (.iload_n 1, 1) := by decide +kernel
theorem dX6_isSo_1 : decode cX6_isSo 1 = .ok (.tableswitch 60 60 62 #[27, 38, 49], 27) := by decide +kernel
theorem dX6_isSo_28 : decode cX6_isSo 28 = .ok (.iload_n 0, 1) := by decide +kernel
theorem dX6_isSo_29 : decode cX6_isSo 29 = .ok (.iload_n 2, 1) := by decide +kernel
theorem dX6_isSo_30 : decode cX6_isSo 30 = .ok (.if_icmp .ge 7, 3) := by decide +kernel
theorem dX6_isSo_33 : decode cX6_isSo 33 = .ok (.iconst 1, 1) := by decide +kernel
theorem dX6_isSo_34 : decode cX6_isSo 34 = .ok (.goto 4, 3) := by decide +kernel
theorem dX6_isSo_37 : decode cX6_isSo 37 = .ok (.iconst 0, 1) := by decide +kernel
theorem dX6_isSo_38 : decode cX6_isSo 38 = .ok (.ireturn, 1) := by decide +kernel
theorem dX6_isSo_39 : decode cX6_isSo 39 = .ok (.iload_n 0, 1) := by decide +kernel
theorem dX6_isSo_40 : decode cX6_isSo 40 = .ok (.iload_n 2, 1) := by decide +kernel
theorem dX6_isSo_41 : decode cX6_isSo 41 = .ok (.if_icmp .ne 7, 3) := by decide +kernel
theorem dX6_isSo_44 : decode cX6_isSo 44 = .ok (.iconst 1, 1) := by decide +kernel
theorem dX6_isSo_45 : decode cX6_isSo 45 = .ok (.goto 4, 3) := by decide +kernel
theorem dX6_isSo_48 : decode cX6_isSo 48 = .ok (.iconst 0, 1) := by decide +kernel
theorem dX6_isSo_49 : decode cX6_isSo 49 = .ok (.ireturn, 1) := by decide +kernel
theorem dX6_isSo_50 : decode cX6_isSo 50 = .ok (.iload_n 0, 1) := by decide +kernel
theorem dX6_isSo_51 : decode cX6_isSo 51 = .ok (.iload_n 2, 1) := by decide +kernel
theorem dX6_isSo_52 : decode cX6_isSo 52 = .ok (.if_icmp .le 7, 3) := by decide +kernel
theorem dX6_isSo_55 : decode cX6_isSo 55 = .ok (.iconst 1, 1) := by decide +kernel
theorem dX6_isSo_56 : decode cX6_isSo 56 = .ok (.goto 4, 3) := by decide +kernel
theorem dX6_isSo_59 : decode cX6_isSo 59 = .ok (.iconst 0, 1) := by decide +kernel
theorem dX6_isSo_60 : decode cX6_isSo 60 = .ok (.ireturn, 1) := by decide +kernel
theorem dX6_isSo_61 : decode cX6_isSo 61 = .ok (.iload_n 0, 1) := by decide +kernel
theorem dX6_isSo_62 : decode cX6_isSo 62 = .ok (.iload_n 2, 1) := by decide +kernel
theorem dX6_isSo_63 : decode cX6_isSo 63 = .ok (.if_icmp .eq 7, 3) := by decide +kernel
theorem dX6_isSo_66 : decode cX6_isSo 66 = .ok (.iconst 1, 1) := by decide +kernel
theorem dX6_isSo_67 : decode cX6_isSo 67 = .ok (.goto 4, 3) := by decide +kernel
theorem dX6_isSo_70 : decode cX6_isSo 70 = .ok (.iconst 0, 1) := by decide +kernel
theorem dX6_isSo_71 : decode cX6_isSo 71 = .ok (.ireturn, 1) := by decide +kernel
theorem dX6_beginNot_0 : decode cX6_beginNot 0 = .ok (.aload_n 0, 1) := by decide +kernel
theorem dX6_beginNot_1 : decode cX6_beginNot 1 = .ok (.getfield 74, 3) := by decide +kernel
theorem dX6_beginNot_4 : decode cX6_beginNot 4 = .ok (.iconst 1, 1) := by decide +kernel
theorem dX6_beginNot_5 : decode cX6_beginNot 5 = .ok (.iadd, 1) := by decide +kernel
theorem dX6_beginNot_6 : decode cX6_beginNot 6 = .ok (.istore_n 3, 1) := by decide +kernel
theorem dX6_beginNot_7 : decode cX6_beginNot 7 = .ok (.iload_n 3, 1) := by decide +kernel
theorem dX6_beginNot_8 : decode cX6_beginNot 8 = .ok (.iconst 1, 1) := by decide +kernel
theorem dX6_beginNot_9 : decode cX6_beginNot 9 = .ok (.if_icmp .lt 21, 3) := by decide +kernel
theorem dX6_beginNot_12 : decode cX6_beginNot 12 = .ok (.iload_n 3, 1) := by decide +kernel
theorem dX6_beginNot_13 : decode cX6_beginNot 13 = .ok (.aload_n 0, 1) := by decide +kernel
theorem dX6_beginNot_14 : decode cX6_beginNot 14 = .ok (.getfield 37, 3) := by decide +kernel
theorem dX6_beginNot_17 : decode cX6_beginNot 17 = .ok (.arraylength, 1) := by decide +kernel
theorem dX6_beginNot_18 : decode cX6_beginNot 18 = .ok (.if_icmp .ge 12, 3) := by decide +kernel
theorem dX6_beginNot_21 : decode cX6_beginNot 21 = .ok (.iload_n 3, 1) := by decide +kernel
theorem dX6_beginNot_22 : decode cX6_beginNot 22 = .ok (.aload_n 0, 1) := by decide +kernel
theorem dX6_beginNot_23 : decode cX6_beginNot 23 = .ok (.getfield 42, 3) := by decide +kernel
theorem dX6_beginNot_26 : decode cX6_beginNot 26 = .ok (.arraylength, 1) := by decide +kernel
theorem dX6_beginNot_27 : decode cX6_beginNot 27 = .ok (.if_icmp .lt 8, 3) := by decide +kernel
theorem dX6_beginNot_30 : decode cX6_beginNot 30 = .ok (.aload_n 0, 1) := by decide +kernel
theorem dX6_beginNot_31 : decode cX6_beginNot 31 = .ok (.invokevirtual 275, 3) := by decide +kernel
theorem dX6_beginNot_34 : decode cX6_beginNot 34 = .ok (.ireturn, 1) := by decide +kernel
theorem dX6_beginNot_35 : decode cX6_beginNot 35 = .ok (.aload_n 0, 1) := by decide +kernel
theorem dX6_beginNot_36 : decode cX6_beginNot 36 = .ok (.iload_n 3, 1) := by decide +kernel
theorem dX6_beginNot_37 : decode cX6_beginNot 37 = .ok (.putfield 74, 3) := by decide +kernel
theorem dX6_beginNot_40 : decode cX6_beginNot 40 = .ok (.aload_n 0, 1) := by decide +kernel
theorem dX6_beginNot_41 : decode cX6_beginNot 41 = .ok (.getfield 42, 3) := by decide +kernel
theorem dX6_beginNot_44 : decode cX6_beginNot 44 = .ok (.iload_n 3, 1) := by decide +kernel
theorem dX6_beginNot_45 : decode cX6_beginNot 45 = .ok (.aload_n 0, 1) := by decide +kernel
theorem dX6_beginNot_46 : decode cX6_beginNot 46 = .ok (.getfield 32, 3) := by decide +kernel
theorem dX6_beginNot_49 : decode cX6_beginNot 49 = .ok (.getfield 63, 3) := by decide +kernel
theorem dX6_beginNot_52 : decode cX6_beginNot 52 = .ok (.iastore, 1) := by decide +kernel
theorem dX6_beginNot_53 : decode cX6_beginNot 53 = .ok (.aload_n 0, 1) := by decide +kernel
theorem dX6_beginNot_54 : decode cX6_beginNot 54 = .ok (.getfield 37, 3) := by decide +kernel
theorem dX6_beginNot_57 : decode cX6_beginNot 57 = .ok (.iload_n 3, 1) := by decide +kernel
theorem dX6_beginNot_58 : decode cX6_beginNot 58 = .ok (.aaload, 1) := by decide +kernel
theorem dX6_beginNot_59 : decode cX6_beginNot 59 = .ok (.astore 4, 2) := by decide +kernel
theorem dX6_beginNot_61 : decode cX6_beginNot 61 = .ok (.aload 4, 2) := by decide +kernel
theorem dX6_beginNot_63 : decode cX6_beginNot 63 = .ok (.aload_n 1, 1) := by decide +kernel
theorem dX6_beginNot_64 : decode cX6_beginNot 64 = .ok (.invokevirtual 93, 3) := by decide +kernel
theorem dX6_beginNot_67 : decode cX6_beginNot 67 = .ok (.aload 4, 2) := by decide +kernel
theorem dX6_beginNot_69 : decode cX6_beginNot 69 = .ok (.iconst 0, 1) := by decide +kernel
theorem dX6_beginNot_70 : decode cX6_beginNot 70 = .ok (.putfield 170, 3) := by decide +kernel
theorem dX6_beginNot_73 : decode cX6_beginNot 73 = .ok (.aload 4, 2) := by decide +kernel
theorem dX6_beginNot_75 : decode cX6_beginNot 75 = .ok (.iload_n 2, 1) := by decide +kernel
theorem dX6_beginNot_76 : decode cX6_beginNot 76 = .ok (.aload_n 0, 1) := by decide +kernel
theorem dX6_beginNot_77 : decode cX6_beginNot 77 = .ok (.getfield 12, 3) := by decide +kernel
theorem dX6_beginNot_80 : decode cX6_beginNot 80 = .ok (.iload_n 2, 1) := by decide +kernel
theorem dX6_beginNot_81 : decode cX6_beginNot 81 = .ok (.iconst 0, 1) := by decide +kernel
theorem dX6_beginNot_82 : decode cX6_beginNot 82 = .ok (.invokevirtual 182, 3) := by decide +kernel
theorem dX6_beginNot_85 : decode cX6_beginNot 85 = .ok (.aload_n 0, 1) := by decide +kernel
theorem dX6_beginNot_86 : decode cX6_beginNot 86 = .ok (.getfield 12, 3) := by decide +kernel
theorem dX6_beginNot_89 : decode cX6_beginNot 89 = .ok (.iload_n 2, 1) := by decide +kernel
theorem dX6_beginNot_90 : decode cX6_beginNot 90 = .ok (.invokevirtual 186, 3) := by decide +kernel
theorem dX6_beginNot_93 : decode cX6_beginNot 93 = .ok (.iconst 1, 1) := by decide +kernel
theorem dX6_beginNot_94 : decode cX6_beginNot 94 = .ok (.iadd, 1) := by decide +kernel
theorem dX6_beginNot_95 : decode cX6_beginNot 95 = .ok (.invokevirtual 189, 3) := by decide +kernel
theorem dX6_beginNot_98 : decode cX6_beginNot 98 = .ok (.iconst 0, 1) := by decide +kernel
theorem dX6_beginNot_99 : decode cX6_beginNot 99 = .ok (.ireturn, 1) := by decide +kernel
theorem dX6_drop_0 : decode cX6_drop 0 = .ok (.aload_n 0, 1) := by decide +kernel
theorem dX6_drop_1 : decode cX6_drop 1 = .ok (.getfield 74, 3) := by decide +kernel
theorem dX6_drop_4 : decode cX6_drop 4 = .ok (.ifCond .le 16, 3) := by decide +kernel
theorem dX6_drop_7 : decode cX6_drop 7 = .ok (.aload_n 0, 1) := by decide +kernel
theorem dX6_drop_8 : decode cX6_drop 8 = .ok (.getfield 32, 3) := by decide +kernel
theorem dX6_drop_11 : decode cX6_drop 11 = .ok (.aload_n 1, 1) := by decide +kernel
theorem dX6_drop_12 : decode cX6_drop 12 = .ok (.iload_n 2, 1) := by decide +kernel
theorem dX6_drop_13 : decode cX6_drop 13 = .ok (.invokevirtual 282, 3) := by decide +kernel
theorem dX6_drop_16 : decode cX6_drop 16 = .ok (.pop, 1) := by decide +kernel
theorem dX6_drop_17 : decode cX6_drop 17 = .ok (.goto 18, 3) := by decide +kernel
theorem dX6_drop_20 : decode cX6_drop 20 = .ok (.aload_n 0, 1) := by decide +kernel
theorem dX6_drop_21 : decode cX6_drop 21 = .ok (.bipush 7, 2) := by decide +kernel
theorem dX6_drop_23 : decode cX6_drop 23 = .ok (.aload_n 0, 1) := by decide +kernel
theorem dX6_drop_24 : decode cX6_drop 24 = .ok (.getfield 28, 3) := by decide +kernel
theorem dX6_drop_27 : decode cX6_drop 27 = .ok (.aload_n 1, 1) := by decide +kernel
theorem dX6_drop_28 : decode cX6_drop 28 = .ok (.iload_n 2, 1) := by decide +kernel
theorem dX6_drop_29 : decode cX6_drop 29 = .ok (.invokevirtual 282, 3) := by decide +kernel
theorem dX6_drop_32 : decode cX6_drop 32 = .ok (.invokevirtual 133, 3) := by decide +kernel
theorem dX6_drop_35 : decode cX6_drop 35 = .ok (.return_, 1) := by decide +kernel
theorem dX6_choose_0 : decode cX6_choose 0 = .ok (.aload_n 0, 1) := by decide +kernel
theorem dX6_choose_1 : decode cX6_choose 1 = .ok (.getfield 74, 3) := by decide +kernel
theorem dX6_choose_4 : decode cX6_choose 4 = .ok (.ifCond .le 10, 3) := by decide +kernel
theorem dX6_choose_7 : decode cX6_choose 7 = .ok (.aload_n 0, 1) := by decide +kernel
theorem dX6_choose_8 : decode cX6_choose 8 = .ok (.getfield 32, 3) := by decide +kernel
theorem dX6_choose_11 : decode cX6_choose 11 = .ok (.goto 7, 3) := by decide +kernel
theorem dX6_choose_14 : decode cX6_choose 14 = .ok (.aload_n 0, 1) := by decide +kernel
theorem dX6_choose_15 : decode cX6_choose 15 = .ok (.getfield 28, 3) := by decide +kernel
theorem dX6_choose_18 : decode cX6_choose 18 = .ok (.astore_n 3, 1) := by decide +kernel
theorem dX6_choose_19 : decode cX6_choose 19 = .ok (.aload_n 3, 1) := by decide +kernel
theorem dX6_choose_20 : decode cX6_choose 20 = .ok (.invokevirtual 284, 3) := by decide +kernel
theorem dX6_choose_23 : decode cX6_choose 23 = .ok (.astore 4, 2) := by decide +kernel
theorem dX6_choose_25 : decode cX6_choose 25 = .ok (.aload 4, 2) := by decide +kernel
theorem dX6_choose_27 : decode cX6_choose 27 = .ok (.ifnonnull 8, 3) := by decide +kernel
theorem dX6_choose_30 : decode cX6_choose 30 = .ok (.aload_n 0, 1) := by decide +kernel
theorem dX6_choose_31 : decode cX6_choose 31 = .ok (.invokevirtual 275, 3) := by decide +kernel
theorem dX6_choose_34 : decode cX6_choose 34 = .ok (.ireturn, 1) := by decide +kernel
theorem dX6_choose_35 : decode cX6_choose 35 = .ok (.aload_n 0, 1) := by decide +kernel
theorem dX6_choose_36 : decode cX6_choose 36 = .ok (.getfield 12, 3) := by decide +kernel
theorem dX6_choose_39 : decode cX6_choose 39 = .ok (.iload_n 2, 1) := by decide +kernel
theorem dX6_choose_40 : decode cX6_choose 40 = .ok (.invokevirtual 179, 3) := by decide +kernel
theorem dX6_choose_43 : decode cX6_choose 43 = .ok (.istore 5, 2) := by decide +kernel
theorem dX6_choose_45 : decode cX6_choose 45 = .ok (.iload 5, 2) := by decide +kernel
theorem dX6_choose_47 : decode cX6_choose 47 = .ok (.iconst 5, 1) := by decide +kernel
theorem dX6_choose_48 : decode cX6_choose 48 = .ok (.if_icmp .ne 19, 3) := by decide +kernel
theorem dX6_choose_51 : decode cX6_choose 51 = .ok (.aload 4, 2) := by decide +kernel
theorem dX6_choose_53 : decode cX6_choose 53 = .ok (.aload_n 0, 1) := by decide +kernel
theorem dX6_choose_54 : decode cX6_choose 54 = .ok (.getfield 12, 3) := by decide +kernel
theorem dX6_choose_57 : decode cX6_choose 57 = .ok (.iload_n 2, 1) := by decide +kernel
theorem dX6_choose_58 : decode cX6_choose 58 = .ok (.invokevirtual 288, 3) := by decide +kernel
theorem dX6_choose_61 : decode cX6_choose 61 = .ok (.putfield 291, 3) := by decide +kernel
theorem dX6_choose_64 : decode cX6_choose 64 = .ok (.goto 33, 3) := by decide +kernel
theorem dX6_choose_67 : decode cX6_choose 67 = .ok (.aload 4, 2) := by decide +kernel
theorem dX6_choose_69 : decode cX6_choose 69 = .ok (.iload 5, 2) := by decide +kernel
theorem dX6_choose_71 : decode cX6_choose 71 = .ok (.iconst 3, 1) := by decide +kernel
theorem dX6_choose_72 : decode cX6_choose 72 = .ok (.if_icmp .ne 14, 3) := by decide +kernel
theorem dX6_choose_75 : decode cX6_choose 75 = .ok (.aload_n 0, 1) := by decide +kernel
theorem dX6_choose_76 : decode cX6_choose 76 = .ok (.aload 4, 2) := by decide +kernel
theorem dX6_choose_78 : decode cX6_choose 78 = .ok (.aload_n 1, 1) := by decide +kernel
theorem dX6_choose_79 : decode cX6_choose 79 = .ok (.iload_n 2, 1) := by decide +kernel
theorem dX6_choose_80 : decode cX6_choose 80 = .ok (.invokevirtual 294, 3) := by decide +kernel
theorem dX6_choose_83 : decode cX6_choose 83 = .ok (.goto 11, 3) := by decide +kernel
theorem dX6_choose_86 : decode cX6_choose 86 = .ok (.aload_n 0, 1) := by decide +kernel
theorem dX6_choose_87 : decode cX6_choose 87 = .ok (.aload 4, 2) := by decide +kernel
theorem dX6_choose_89 : decode cX6_choose 89 = .ok (.aload_n 1, 1) := by decide +kernel
theorem dX6_choose_90 : decode cX6_choose 90 = .ok (.iload_n 2, 1) := by decide +kernel
theorem dX6_choose_91 : decode cX6_choose 91 = .ok (.invokevirtual 298, 3) := by decide +kernel
theorem dX6_choose_94 : decode cX6_choose 94 = .ok (.putfield 291, 3) := by decide +kernel
theorem dX6_choose_97 : decode cX6_choose 97 = .ok (.aload 4, 2) := by decide +kernel
theorem dX6_choose_99 : decode cX6_choose 99 = .ok (.getfield 291, 3) := by decide +kernel
theorem dX6_choose_102 : decode cX6_choose 102 = .ok (.ifCond .gt 8, 3) := by decide +kernel
theorem dX6_choose_105 : decode cX6_choose 105 = .ok (.aload_n 0, 1) := by decide +kernel
theorem dX6_choose_106 : decode cX6_choose 106 = .ok (.invokevirtual 275, 3) := by decide +kernel
theorem dX6_choose_109 : decode cX6_choose 109 = .ok (.ireturn, 1) := by decide +kernel
theorem dX6_choose_110 : decode cX6_choose 110 = .ok (.aload_n 0, 1) := by decide +kernel
theorem dX6_choose_111 : decode cX6_choose 111 = .ok (.getfield 74, 3) := by decide +kernel
theorem dX6_choose_114 : decode cX6_choose 114 = .ok (.ifCond .ne 32, 3) := by decide +kernel
theorem dX6_choose_117 : decode cX6_choose 117 = .ok (.aload_n 0, 1) := by decide +kernel
theorem dX6_choose_118 : decode cX6_choose 118 = .ok (.getfield 53, 3) := by decide +kernel
theorem dX6_choose_121 : decode cX6_choose 121 = .ok (.iconst 5, 1) := by decide +kernel
theorem dX6_choose_122 : decode cX6_choose 122 = .ok (.if_icmp .ne 24, 3) := by decide +kernel
theorem dX6_choose_125 : decode cX6_choose 125 = .ok (.aload_n 1, 1) := by decide +kernel
theorem dX6_choose_126 : decode cX6_choose 126 = .ok (.getfield 173, 3) := by decide +kernel
theorem dX6_choose_129 : decode cX6_choose 129 = .ok (.aload_n 0, 1) := by decide +kernel
theorem dX6_choose_130 : decode cX6_choose 130 = .ok (.getfield 64, 3) := by decide +kernel
theorem dX6_choose_133 : decode cX6_choose 133 = .ok (.if_icmp .lt 13, 3) := by decide +kernel
theorem dX6_choose_136 : decode cX6_choose 136 = .ok (.aload_n 0, 1) := by decide +kernel
theorem dX6_choose_137 : decode cX6_choose 137 = .ok (.iconst 1, 1) := by decide +kernel
theorem dX6_choose_138 : decode cX6_choose 138 = .ok (.putfield 70, 3) := by decide +kernel
theorem dX6_choose_141 : decode cX6_choose 141 = .ok (.aload_n 0, 1) := by decide +kernel
theorem dX6_choose_142 : decode cX6_choose 142 = .ok (.invokevirtual 275, 3) := by decide +kernel
theorem dX6_choose_145 : decode cX6_choose 145 = .ok (.ireturn, 1) := by decide +kernel
theorem dX6_choose_146 : decode cX6_choose 146 = .ok (.aload_n 3, 1) := by decide +kernel
theorem dX6_choose_147 : decode cX6_choose 147 = .ok (.getfield 63, 3) := by decide +kernel
theorem dX6_choose_150 : decode cX6_choose 150 = .ok (.bipush 30, 2) := by decide +kernel
theorem dX6_choose_152 : decode cX6_choose 152 = .ok (.if_icmp .lt 9, 3) := by decide +kernel
theorem dX6_choose_155 : decode cX6_choose 155 = .ok (.aload_n 0, 1) := by decide +kernel
theorem dX6_choose_156 : decode cX6_choose 156 = .ok (.iconst 4, 1) := by decide +kernel
theorem dX6_choose_157 : decode cX6_choose 157 = .ok (.invokevirtual 164, 3) := by decide +kernel
theorem dX6_choose_160 : decode cX6_choose 160 = .ok (.ireturn, 1) := by decide +kernel
theorem dX6_choose_161 : decode cX6_choose 161 = .ok (.aload 4, 2) := by decide +kernel
theorem dX6_choose_163 : decode cX6_choose 163 = .ok (.iconst 0, 1) := by decide +kernel
theorem dX6_choose_164 : decode cX6_choose 164 = .ok (.putfield 167, 3) := by decide +kernel
theorem dX6_choose_167 : decode cX6_choose 167 = .ok (.aload 4, 2) := by decide +kernel
theorem dX6_choose_169 : decode cX6_choose 169 = .ok (.getfield 147, 3) := by decide +kernel
theorem dX6_choose_172 : decode cX6_choose 172 = .ok (.aload_n 1, 1) := by decide +kernel
theorem dX6_choose_173 : decode cX6_choose 173 = .ok (.invokevirtual 93, 3) := by decide +kernel
theorem dX6_choose_176 : decode cX6_choose 176 = .ok (.aload 4, 2) := by decide +kernel
theorem dX6_choose_178 : decode cX6_choose 178 = .ok (.aload_n 0, 1) := by decide +kernel
theorem dX6_choose_179 : decode cX6_choose 179 = .ok (.getfield 12, 3) := by decide +kernel
theorem dX6_choose_182 : decode cX6_choose 182 = .ok (.aload_n 1, 1) := by decide +kernel
theorem dX6_choose_183 : decode cX6_choose 183 = .ok (.getfield 234, 3) := by decide +kernel
theorem dX6_choose_186 : decode cX6_choose 186 = .ok (.invokevirtual 237, 3) := by decide +kernel
theorem dX6_choose_189 : decode cX6_choose 189 = .ok (.putfield 301, 3) := by decide +kernel
theorem dX6_choose_192 : decode cX6_choose 192 = .ok (.aload_n 3, 1) := by decide +kernel
theorem dX6_choose_193 : decode cX6_choose 193 = .ok (.dup, 1) := by decide +kernel
theorem dX6_choose_194 : decode cX6_choose 194 = .ok (.getfield 63, 3) := by decide +kernel
theorem dX6_choose_197 : decode cX6_choose 197 = .ok (.iconst 1, 1) := by decide +kernel
theorem dX6_choose_198 : decode cX6_choose 198 = .ok (.iadd, 1) := by decide +kernel
theorem dX6_choose_199 : decode cX6_choose 199 = .ok (.putfield 63, 3) := by decide +kernel
theorem dX6_choose_202 : decode cX6_choose 202 = .ok (.aload_n 0, 1) := by decide +kernel
theorem dX6_choose_203 : decode cX6_choose 203 = .ok (.getfield 74, 3) := by decide +kernel
theorem dX6_choose_206 : decode cX6_choose 206 = .ok (.ifCond .ne 31, 3) := by decide +kernel
theorem dX6_choose_209 : decode cX6_choose 209 = .ok (.aload_n 0, 1) := by decide +kernel
theorem dX6_choose_210 : decode cX6_choose 210 = .ok (.iconst 5, 1) := by decide +kernel
theorem dX6_choose_211 : decode cX6_choose 211 = .ok (.iconst 1, 1) := by decide +kernel
theorem dX6_choose_212 : decode cX6_choose 212 = .ok (.invokevirtual 133, 3) := by decide +kernel
theorem dX6_choose_215 : decode cX6_choose 215 = .ok (.aload_n 0, 1) := by decide +kernel
theorem dX6_choose_216 : decode cX6_choose 216 = .ok (.iconst 4, 1) := by decide +kernel
theorem dX6_choose_217 : decode cX6_choose 217 = .ok (.iconst 0, 1) := by decide +kernel
theorem dX6_choose_218 : decode cX6_choose 218 = .ok (.aload_n 0, 1) := by decide +kernel
theorem dX6_choose_219 : decode cX6_choose 219 = .ok (.getfield 28, 3) := by decide +kernel
theorem dX6_choose_222 : decode cX6_choose 222 = .ok (.getfield 63, 3) := by decide +kernel
theorem dX6_choose_225 : decode cX6_choose 225 = .ok (.aload_n 0, 1) := by decide +kernel
theorem dX6_choose_226 : decode cX6_choose 226 = .ok (.iconst 4, 1) := by decide +kernel
theorem dX6_choose_227 : decode cX6_choose 227 = .ok (.invokevirtual 241, 3) := by decide +kernel
theorem dX6_choose_230 : decode cX6_choose 230 = .ok (.isub, 1) := by decide +kernel
theorem dX6_choose_231 : decode cX6_choose 231 = .ok (.invokestatic 304, 3) := by decide +kernel
theorem dX6_choose_234 : decode cX6_choose 234 = .ok (.invokevirtual 133, 3) := by decide +kernel
theorem dX6_choose_237 : decode cX6_choose 237 = .ok (.aload_n 0, 1) := by decide +kernel
theorem dX6_choose_238 : decode cX6_choose 238 = .ok (.invokevirtual 275, 3) := by decide +kernel
theorem dX6_choose_241 : decode cX6_choose 241 = .ok (.ireturn, 1) := by decide +kernel
theorem dX6_prepareUpTo_0 : decode cX6_prepareUpTo 0 = .ok (.aload_n 0, 1) := by decide +kernel
theorem dX6_prepareUpTo_1 : decode cX6_prepareUpTo 1 = .ok (.getfield 12, 3) := by decide +kernel
theorem dX6_prepareUpTo_4 : decode cX6_prepareUpTo 4 = .ok (.iload_n 3, 1) := by decide +kernel
theorem dX6_prepareUpTo_5 : decode cX6_prepareUpTo 5 = .ok (.invokevirtual 265, 3) := by decide +kernel
theorem dX6_prepareUpTo_8 : decode cX6_prepareUpTo 8 = .ok (.istore 4, 2) := by decide +kernel
theorem dX6_prepareUpTo_10 : decode cX6_prepareUpTo 10 = .ok (.aload_n 0, 1) := by decide +kernel
theorem dX6_prepareUpTo_11 : decode cX6_prepareUpTo 11 = .ok (.getfield 12, 3) := by decide +kernel
theorem dX6_prepareUpTo_14 : decode cX6_prepareUpTo 14 = .ok (.getfield 261, 3) := by decide +kernel
theorem dX6_prepareUpTo_17 : decode cX6_prepareUpTo 17 = .ok (.iload 4, 2) := by decide +kernel
theorem dX6_prepareUpTo_19 : decode cX6_prepareUpTo 19 = .ok (.aload_n 2, 1) := by decide +kernel
theorem dX6_prepareUpTo_20 : decode cX6_prepareUpTo 20 = .ok (.getfield 234, 3) := by decide +kernel
theorem dX6_prepareUpTo_23 : decode cX6_prepareUpTo 23 = .ok (.invokevirtual 268, 3) := by decide +kernel
theorem dX6_prepareUpTo_26 : decode cX6_prepareUpTo 26 = .ok (.istore 5, 2) := by decide +kernel
theorem dX6_prepareUpTo_28 : decode cX6_prepareUpTo 28 = .ok (.aload_n 0, 1) := by decide +kernel
theorem dX6_prepareUpTo_29 : decode cX6_prepareUpTo 29 = .ok (.getfield 12, 3) := by decide +kernel
theorem dX6_prepareUpTo_32 : decode cX6_prepareUpTo 32 = .ok (.getfield 261, 3) := by decide +kernel
theorem dX6_prepareUpTo_35 : decode cX6_prepareUpTo 35 = .ok (.iload 4, 2) := by decide +kernel
theorem dX6_prepareUpTo_37 : decode cX6_prepareUpTo 37 = .ok (.iconst 1, 1) := by decide +kernel
theorem dX6_prepareUpTo_38 : decode cX6_prepareUpTo 38 = .ok (.iadd, 1) := by decide +kernel
theorem dX6_prepareUpTo_39 : decode cX6_prepareUpTo 39 = .ok (.aload_n 2, 1) := by decide +kernel
theorem dX6_prepareUpTo_40 : decode cX6_prepareUpTo 40 = .ok (.getfield 234, 3) := by decide +kernel
theorem dX6_prepareUpTo_43 : decode cX6_prepareUpTo 43 = .ok (.invokevirtual 268, 3) := by decide +kernel
theorem dX6_prepareUpTo_46 : decode cX6_prepareUpTo 46 = .ok (.istore 6, 2) := by decide +kernel
theorem dX6_prepareUpTo_48 : decode cX6_prepareUpTo 48 = .ok (.iload 5, 2) := by decide +kernel
theorem dX6_prepareUpTo_50 : decode cX6_prepareUpTo 50 = .ok (.ldc_w 274, 3) := by decide +kernel
theorem dX6_prepareUpTo_53 : decode cX6_prepareUpTo 53 = .ok (.if_icmp .eq 11, 3) := by decide +kernel
theorem dX6_prepareUpTo_56 : decode cX6_prepareUpTo 56 = .ok (.iload 6, 2) := by decide +kernel
theorem dX6_prepareUpTo_58 : decode cX6_prepareUpTo 58 = .ok (.ldc_w 274, 3) := by decide +kernel
theorem dX6_prepareUpTo_61 : decode cX6_prepareUpTo 61 = .ok (.if_icmp .ne 5, 3) := by decide +kernel
theorem dX6_prepareUpTo_64 : decode cX6_prepareUpTo 64 = .ok (.iconst 0, 1) := by decide +kernel
theorem dX6_prepareUpTo_65 : decode cX6_prepareUpTo 65 = .ok (.ireturn, 1) := by decide +kernel
theorem dX6_prepareUpTo_66 : decode cX6_prepareUpTo 66 = .ok (.aload_n 1, 1) := by decide +kernel
theorem dX6_prepareUpTo_67 : decode cX6_prepareUpTo 67 = .ok (.iload 5, 2) := by decide +kernel
theorem dX6_prepareUpTo_69 : decode cX6_prepareUpTo 69 = .ok (.putfield 193, 3) := by decide +kernel
theorem dX6_prepareUpTo_72 : decode cX6_prepareUpTo 72 = .ok (.iload 6, 2) := by decide +kernel
theorem dX6_prepareUpTo_74 : decode cX6_prepareUpTo 74 = .ok (.iload 5, 2) := by decide +kernel
theorem dX6_prepareUpTo_76 : decode cX6_prepareUpTo 76 = .ok (.isub, 1) := by decide +kernel
theorem dX6_prepareUpTo_77 : decode cX6_prepareUpTo 77 = .ok (.iconst 1, 1) := by decide +kernel
theorem dX6_prepareUpTo_78 : decode cX6_prepareUpTo 78 = .ok (.iadd, 1) := by decide +kernel
theorem dX6_prepareUpTo_79 : decode cX6_prepareUpTo 79 = .ok (.ireturn, 1) := by decide +kernel
theorem dX6_prepareAmong_0 : decode cX6_prepareAmong 0 = .ok (.aload_n 0, 1) := by decide +kernel
theorem dX6_prepareAmong_1 : decode cX6_prepareAmong 1 = .ok (.getfield 12, 3) := by decide +kernel
theorem dX6_prepareAmong_4 : decode cX6_prepareAmong 4 = .ok (.iload_n 3, 1) := by decide +kernel
theorem dX6_prepareAmong_5 : decode cX6_prepareAmong 5 = .ok (.invokevirtual 265, 3) := by decide +kernel
theorem dX6_prepareAmong_8 : decode cX6_prepareAmong 8 = .ok (.istore 4, 2) := by decide +kernel
theorem dX6_prepareAmong_10 : decode cX6_prepareAmong 10 = .ok (.aload_n 0, 1) := by decide +kernel
theorem dX6_prepareAmong_11 : decode cX6_prepareAmong 11 = .ok (.getfield 12, 3) := by decide +kernel
theorem dX6_prepareAmong_14 : decode cX6_prepareAmong 14 = .ok (.iload_n 3, 1) := by decide +kernel
theorem dX6_prepareAmong_15 : decode cX6_prepareAmong 15 = .ok (.iconst 1, 1) := by decide +kernel
theorem dX6_prepareAmong_16 : decode cX6_prepareAmong 16 = .ok (.iadd, 1) := by decide +kernel
theorem dX6_prepareAmong_17 : decode cX6_prepareAmong 17 = .ok (.invokevirtual 265, 3) := by decide +kernel
theorem dX6_prepareAmong_20 : decode cX6_prepareAmong 20 = .ok (.iload 4, 2) := by decide +kernel
theorem dX6_prepareAmong_22 : decode cX6_prepareAmong 22 = .ok (.isub, 1) := by decide +kernel
theorem dX6_prepareAmong_23 : decode cX6_prepareAmong 23 = .ok (.istore 5, 2) := by decide +kernel
theorem dX6_prepareAmong_25 : decode cX6_prepareAmong 25 = .ok (.iconst 0, 1) := by decide +kernel
theorem dX6_prepareAmong_26 : decode cX6_prepareAmong 26 = .ok (.istore 6, 2) := by decide +kernel
theorem dX6_prepareAmong_28 : decode cX6_prepareAmong 28 = .ok (.iload 6, 2) := by decide +kernel
theorem dX6_prepareAmong_30 : decode cX6_prepareAmong 30 = .ok (.iload 5, 2) := by decide +kernel
theorem dX6_prepareAmong_32 : decode cX6_prepareAmong 32 = .ok (.if_icmp .ge 56, 3) := by decide +kernel
theorem dX6_prepareAmong_35 : decode cX6_prepareAmong 35 = .ok (.iload 6, 2) := by decide +kernel
theorem dX6_prepareAmong_37 : decode cX6_prepareAmong 37 = .ok (.bipush 6, 2) := by decide +kernel
theorem dX6_prepareAmong_39 : decode cX6_prepareAmong 39 = .ok (.if_icmp .ge 49, 3) := by decide +kernel
theorem dX6_prepareAmong_42 : decode cX6_prepareAmong 42 = .ok (.aload_n 0, 1) := by decide +kernel
theorem dX6_prepareAmong_43 : decode cX6_prepareAmong 43 = .ok (.getfield 12, 3) := by decide +kernel
theorem dX6_prepareAmong_46 : decode cX6_prepareAmong 46 = .ok (.getfield 261, 3) := by decide +kernel
theorem dX6_prepareAmong_49 : decode cX6_prepareAmong 49 = .ok (.iload 4, 2) := by decide +kernel
theorem dX6_prepareAmong_51 : decode cX6_prepareAmong 51 = .ok (.iload 6, 2) := by decide +kernel
theorem dX6_prepareAmong_53 : decode cX6_prepareAmong 53 = .ok (.iadd, 1) := by decide +kernel
theorem dX6_prepareAmong_54 : decode cX6_prepareAmong 54 = .ok (.aload_n 2, 1) := by decide +kernel
theorem dX6_prepareAmong_55 : decode cX6_prepareAmong 55 = .ok (.getfield 234, 3) := by decide +kernel
theorem dX6_prepareAmong_58 : decode cX6_prepareAmong 58 = .ok (.invokevirtual 268, 3) := by decide +kernel
theorem dX6_prepareAmong_61 : decode cX6_prepareAmong 61 = .ok (.istore 7, 2) := by decide +kernel
theorem dX6_prepareAmong_63 : decode cX6_prepareAmong 63 = .ok (.iload 7, 2) := by decide +kernel
theorem dX6_prepareAmong_65 : decode cX6_prepareAmong 65 = .ok (.ldc_w 274, 3) := by decide +kernel
theorem dX6_prepareAmong_68 : decode cX6_prepareAmong 68 = .ok (.if_icmp .ne 5, 3) := by decide +kernel
theorem dX6_prepareAmong_71 : decode cX6_prepareAmong 71 = .ok (.iconst 0, 1) := by decide +kernel
theorem dX6_prepareAmong_72 : decode cX6_prepareAmong 72 = .ok (.ireturn, 1) := by decide +kernel
theorem dX6_prepareAmong_73 : decode cX6_prepareAmong 73 = .ok (.aload_n 1, 1) := by decide +kernel
theorem dX6_prepareAmong_74 : decode cX6_prepareAmong 74 = .ok (.getfield 309, 3) := by decide +kernel
theorem dX6_prepareAmong_77 : decode cX6_prepareAmong 77 = .ok (.iload 6, 2) := by decide +kernel
theorem dX6_prepareAmong_79 : decode cX6_prepareAmong 79 = .ok (.iload 7, 2) := by decide +kernel
theorem dX6_prepareAmong_81 : decode cX6_prepareAmong 81 = .ok (.iastore, 1) := by decide +kernel
theorem dX6_prepareAmong_82 : decode cX6_prepareAmong 82 = .ok (.iinc 6 1, 3) := by decide +kernel
theorem dX6_prepareAmong_85 : decode cX6_prepareAmong 85 = .ok (.goto (-57), 3) := by decide +kernel
theorem dX6_prepareAmong_88 : decode cX6_prepareAmong 88 = .ok (.iload 5, 2) := by decide +kernel
theorem dX6_prepareAmong_90 : decode cX6_prepareAmong 90 = .ok (.ireturn, 1) := by decide +kernel
theorem dX9_init_0 : decode cX9_init 0 = .ok (.aload_n 0, 1) := by decide +kernel
theorem dX9_init_1 : decode cX9_init 1 = .ok (.invokespecial 1, 3) := by decide +kernel
theorem dX9_init_4 : decode cX9_init 4 = .ok (.aload_n 0, 1) := by decide +kernel
theorem dX9_init_5 : decode cX9_init 5 = .ok (.new 7, 3) := by decide +kernel
theorem dX9_init_8 : decode cX9_init 8 = .ok (.dup, 1) := by decide +kernel
theorem dX9_init_9 : decode cX9_init 9 = .ok (.invokespecial 9, 3) := by decide +kernel
theorem dX9_init_12 : decode cX9_init 12 = .ok (.putfield 10, 3) := by decide +kernel
theorem dX9_init_15 : decode cX9_init 15 = .ok (.aload_n 0, 1) := by decide +kernel
theorem dX9_init_16 : decode cX9_init 16 = .ok (.new 16, 3) := by decide +kernel
theorem dX9_init_19 : decode cX9_init 19 = .ok (.dup, 1) := by decide +kernel
theorem dX9_init_20 : decode cX9_init 20 = .ok (.aload_n 0, 1) := by decide +kernel
theorem dX9_init_21 : decode cX9_init 21 = .ok (.getfield 10, 3) := by decide +kernel
theorem dX9_init_24 : decode cX9_init 24 = .ok (.invokespecial 18, 3) := by decide +kernel
theorem dX9_init_27 : decode cX9_init 27 = .ok (.putfield 21, 3) := by decide +kernel
theorem dX9_init_30 : decode cX9_init 30 = .ok (.aload_n 0, 1) := by decide +kernel
theorem dX9_init_31 : decode cX9_init 31 = .ok (.iconst 4, 1) := by decide +kernel
theorem dX9_init_32 : decode cX9_init 32 = .ok (.anewarray 25, 3) := by decide +kernel
theorem dX9_init_35 : decode cX9_init 35 = .ok (.putfield 27, 3) := by decide +kernel
theorem dX9_init_38 : decode cX9_init 38 = .ok (.aload_n 0, 1) := by decide +kernel
theorem dX9_init_39 : decode cX9_init 39 = .ok (.iconst 4, 1) := by decide +kernel
theorem dX9_init_40 : decode cX9_init 40 = .ok (.anewarray 31, 3) := by decide +kernel
theorem dX9_init_43 : decode cX9_init 43 = .ok (.putfield 33, 3) := by decide +kernel
theorem dX9_init_46 : decode cX9_init 46 = .ok (.iconst 0, 1) := by decide +kernel
theorem dX9_init_47 : decode cX9_init 47 = .ok (.istore_n 1, 1) := by decide +kernel
theorem dX9_init_48 : decode cX9_init 48 = .ok (.iload_n 1, 1) := by decide +kernel
theorem dX9_init_49 : decode cX9_init 49 = .ok (.iconst 4, 1) := by decide +kernel
theorem dX9_init_50 : decode cX9_init 50 = .ok (.if_icmp .ge 35, 3) := by decide +kernel
theorem dX9_init_53 : decode cX9_init 53 = .ok (.aload_n 0, 1) := by decide +kernel
theorem dX9_init_54 : decode cX9_init 54 = .ok (.getfield 27, 3) := by decide +kernel
theorem dX9_init_57 : decode cX9_init 57 = .ok (.iload_n 1, 1) := by decide +kernel
theorem dX9_init_58 : decode cX9_init 58 = .ok (.new 25, 3) := by decide +kernel
theorem dX9_init_61 : decode cX9_init 61 = .ok (.dup, 1) := by decide +kernel
theorem dX9_init_62 : decode cX9_init 62 = .ok (.invokespecial 37, 3) := by decide +kernel
theorem dX9_init_65 : decode cX9_init 65 = .ok (.aastore, 1) := by decide +kernel
theorem dX9_init_66 : decode cX9_init 66 = .ok (.aload_n 0, 1) := by decide +kernel
theorem dX9_init_67 : decode cX9_init 67 = .ok (.getfield 33, 3) := by decide +kernel
theorem dX9_init_70 : decode cX9_init 70 = .ok (.iload_n 1, 1) := by decide +kernel
theorem dX9_init_71 : decode cX9_init 71 = .ok (.new 31, 3) := by decide +kernel
theorem dX9_init_74 : decode cX9_init 74 = .ok (.dup, 1) := by decide +kernel
theorem dX9_init_75 : decode cX9_init 75 = .ok (.invokespecial 38, 3) := by decide +kernel
theorem dX9_init_78 : decode cX9_init 78 = .ok (.aastore, 1) := by decide +kernel
theorem dX9_init_79 : decode cX9_init 79 = .ok (.iinc 1 1, 3) := by decide +kernel
theorem dX9_init_82 : decode cX9_init 82 = .ok (.goto (-34), 3) := by decide +kernel
theorem dX9_init_85 : decode cX9_init 85 = .ok (.aload_n 0, 1) := by decide +kernel
theorem dX9_init_86 : decode cX9_init 86 = .ok (.new 31, 3) := by decide +kernel
theorem dX9_init_89 : decode cX9_init 89 = .ok (.dup, 1) := by decide +kernel
theorem dX9_init_90 : decode cX9_init 90 = .ok (.invokespecial 38, 3) := by decide +kernel
theorem dX9_init_93 : decode cX9_init 93 = .ok (.putfield 39, 3) := by decide +kernel
theorem dX9_init_96 : decode cX9_init 96 = .ok (.return_, 1) := by decide +kernel
theorem dX9_feed_0 : decode cX9_feed 0 = .ok (.iload_n 1, 1) := by decide +kernel
theorem dX9_feed_1 : decode cX9_feed 1 = .ok (.iconst 1, 1) := by decide +kernel
theorem dX9_feed_2 : decode cX9_feed 2 = .ok (.if_icmp .lt 10, 3) := by decide +kernel
theorem dX9_feed_5 : decode cX9_feed 5 = .ok (.iload_n 1, 1) := by decide +kernel
theorem dX9_feed_6 : decode cX9_feed 6 = .ok (.sipush 255, 3) := by decide +kernel
theorem dX9_feed_9 : decode cX9_feed 9 = .ok (.if_icmp .le 7, 3) := by decide +kernel
theorem dX9_feed_12 : decode cX9_feed 12 = .ok (.sipush (-2001), 3) := by decide +kernel
theorem dX9_feed_15 : decode cX9_feed 15 = .ok (.ireturn, 1) := by decide +kernel
theorem dX9_feed_16 : decode cX9_feed 16 = .ok (.aload_n 0, 1) := by decide +kernel
theorem dX9_feed_17 : decode cX9_feed 17 = .ok (.getfield 10, 3) := by decide +kernel
theorem dX9_feed_20 : decode cX9_feed 20 = .ok (.iload_n 1, 1) := by decide +kernel
theorem dX9_feed_21 : decode cX9_feed 21 = .ok (.invokevirtual 43, 3) := by decide +kernel
theorem dX9_feed_24 : decode cX9_feed 24 = .ok (.ifCond .eq 13, 3) := by decide +kernel
theorem dX9_feed_27 : decode cX9_feed 27 = .ok (.aload_n 0, 1) := by decide +kernel
theorem dX9_feed_28 : decode cX9_feed 28 = .ok (.getfield 10, 3) := by decide +kernel
theorem dX9_feed_31 : decode cX9_feed 31 = .ok (.getfield 47, 3) := by decide +kernel
theorem dX9_feed_34 : decode cX9_feed 34 = .ok (.goto 6, 3) := by decide +kernel
theorem dX9_feed_37 : decode cX9_feed 37 = .ok (.sipush (-2002), 3) := by decide +kernel
theorem dX9_feed_40 : decode cX9_feed 40 = .ok (.ireturn, 1) := by decide +kernel
theorem dX9_program_0 : decode cX9_program 0 = .ok (.aload_n 0, 1) := by decide +kernel
theorem dX9_program_1 : decode cX9_program 1 = .ok (.iload_n 1, 1) := by decide +kernel
theorem dX9_program_2 : decode cX9_program 2 = .ok (.invokevirtual 51, 3) := by decide +kernel
theorem dX9_program_5 : decode cX9_program 5 = .ok (.astore_n 2, 1) := by decide +kernel
theorem dX9_program_6 : decode cX9_program 6 = .ok (.aload_n 2, 1) := by decide +kernel
theorem dX9_program_7 : decode cX9_program 7 = .ok (.ifnonnull 7, 3) := by decide +kernel
theorem dX9_program_10 : decode cX9_program 10 = .ok (.sipush (-2001), 3) := by decide +kernel
theorem dX9_program_13 : decode cX9_program 13 = .ok (.ireturn, 1) := by decide +kernel
theorem dX9_program_14 : decode cX9_program 14 = .ok (.aload_n 0, 1) := by decide +kernel
theorem dX9_program_15 : decode cX9_program 15 = .ok (.getfield 21, 3) := by decide +kernel
theorem dX9_program_18 : decode cX9_program 18 = .ok (.invokevirtual 55, 3) := by decide +kernel
theorem dX9_program_21 : decode cX9_program 21 = .ok (.istore_n 3, 1) := by decide +kernel
theorem dX9_program_22 : decode cX9_program 22 = .ok (.aload_n 0, 1) := by decide +kernel
theorem dX9_program_23 : decode cX9_program 23 = .ok (.getfield 10, 3) := by decide +kernel
theorem dX9_program_26 : decode cX9_program 26 = .ok (.invokevirtual 59, 3) := by decide +kernel
theorem dX9_program_29 : decode cX9_program 29 = .ok (.iload_n 3, 1) := by decide +kernel
theorem dX9_program_30 : decode cX9_program 30 = .ok (.iconst (-1), 1) := by decide +kernel
theorem dX9_program_31 : decode cX9_program 31 = .ok (.if_icmp .eq 8, 3) := by decide +kernel
theorem dX9_program_34 : decode cX9_program 34 = .ok (.bipush (-100), 2) := by decide +kernel
theorem dX9_program_36 : decode cX9_program 36 = .ok (.iload_n 3, 1) := by decide +kernel
theorem dX9_program_37 : decode cX9_program 37 = .ok (.isub, 1) := by decide +kernel
theorem dX9_program_38 : decode cX9_program 38 = .ok (.ireturn, 1) := by decide +kernel
theorem dX9_program_39 : decode cX9_program 39 = .ok (.aload_n 2, 1) := by decide +kernel
theorem dX9_program_40 : decode cX9_program 40 = .ok (.aload_n 0, 1) := by decide +kernel
theorem dX9_program_41 : decode cX9_program 41 = .ok (.getfield 21, 3) := by decide +kernel
theorem dX9_program_44 : decode cX9_program 44 = .ok (.getfield 62, 3) := by decide +kernel
theorem dX9_program_47 : decode cX9_program 47 = .ok (.invokevirtual 66, 3) := by decide +kernel
theorem dX9_program_50 : decode cX9_program 50 = .ok (.aload_n 2, 1) := by decide +kernel
theorem dX9_program_51 : decode cX9_program 51 = .ok (.getfield 70, 3) := by decide +kernel
theorem dX9_program_54 : decode cX9_program 54 = .ok (.ireturn, 1) := by decide +kernel
theorem dX9_cost_0 : decode cX9_cost 0 = .ok (.aload_n 0, 1) := by decide +kernel
theorem dX9_cost_1 : decode cX9_cost 1 = .ok (.iload_n 1, 1) := by decide +kernel
theorem dX9_cost_2 : decode cX9_cost 2 = .ok (.invokevirtual 51, 3) := by decide +kernel
theorem dX9_cost_5 : decode cX9_cost 5 = .ok (.astore_n 2, 1) := by decide +kernel
theorem dX9_cost_6 : decode cX9_cost 6 = .ok (.aload_n 2, 1) := by decide +kernel
theorem dX9_cost_7 : decode cX9_cost 7 = .ok (.ifnonnull 7, 3) := by decide +kernel
theorem dX9_cost_10 : decode cX9_cost 10 = .ok (.sipush (-2001), 3) := by decide +kernel
theorem dX9_cost_13 : decode cX9_cost 13 = .ok (.ireturn, 1) := by decide +kernel
theorem dX9_cost_14 : decode cX9_cost 14 = .ok (.aload_n 2, 1) := by decide +kernel
theorem dX9_cost_15 : decode cX9_cost 15 = .ok (.getfield 70, 3) := by decide +kernel
theorem dX9_cost_18 : decode cX9_cost 18 = .ok (.ifCond .ne 7, 3) := by decide +kernel
theorem dX9_cost_21 : decode cX9_cost 21 = .ok (.sipush (-2003), 3) := by decide +kernel
theorem dX9_cost_24 : decode cX9_cost 24 = .ok (.ireturn, 1) := by decide +kernel
theorem dX9_cost_25 : decode cX9_cost 25 = .ok (.aload_n 0, 1) := by decide +kernel
theorem dX9_cost_26 : decode cX9_cost 26 = .ok (.getfield 21, 3) := by decide +kernel
theorem dX9_cost_29 : decode cX9_cost 29 = .ok (.invokevirtual 71, 3) := by decide +kernel
theorem dX9_cost_32 : decode cX9_cost 32 = .ok (.istore_n 3, 1) := by decide +kernel
theorem dX9_cost_33 : decode cX9_cost 33 = .ok (.aload_n 0, 1) := by decide +kernel
theorem dX9_cost_34 : decode cX9_cost 34 = .ok (.getfield 10, 3) := by decide +kernel
theorem dX9_cost_37 : decode cX9_cost 37 = .ok (.invokevirtual 59, 3) := by decide +kernel
theorem dX9_cost_40 : decode cX9_cost 40 = .ok (.iload_n 3, 1) := by decide +kernel
theorem dX9_cost_41 : decode cX9_cost 41 = .ok (.iconst (-1), 1) := by decide +kernel
theorem dX9_cost_42 : decode cX9_cost 42 = .ok (.if_icmp .eq 8, 3) := by decide +kernel
theorem dX9_cost_45 : decode cX9_cost 45 = .ok (.bipush (-100), 2) := by decide +kernel
theorem dX9_cost_47 : decode cX9_cost 47 = .ok (.iload_n 3, 1) := by decide +kernel
theorem dX9_cost_48 : decode cX9_cost 48 = .ok (.isub, 1) := by decide +kernel
theorem dX9_cost_49 : decode cX9_cost 49 = .ok (.ireturn, 1) := by decide +kernel
theorem dX9_cost_50 : decode cX9_cost 50 = .ok (.aload_n 2, 1) := by decide +kernel
theorem dX9_cost_51 : decode cX9_cost 51 = .ok (.getfield 74, 3) := by decide +kernel
theorem dX9_cost_54 : decode cX9_cost 54 = .ok (.aload_n 0, 1) := by decide +kernel
theorem dX9_cost_55 : decode cX9_cost 55 = .ok (.getfield 21, 3) := by decide +kernel
theorem dX9_cost_58 : decode cX9_cost 58 = .ok (.getfield 62, 3) := by decide +kernel
theorem dX9_cost_61 : decode cX9_cost 61 = .ok (.getfield 74, 3) := by decide +kernel
theorem dX9_cost_64 : decode cX9_cost 64 = .ok (.invokevirtual 78, 3) := by decide +kernel
theorem dX9_cost_67 : decode cX9_cost 67 = .ok (.iconst 1, 1) := by decide +kernel
theorem dX9_cost_68 : decode cX9_cost 68 = .ok (.ireturn, 1) := by decide +kernel
theorem dX9_begin_0 : decode cX9_begin 0 = .ok (.aload_n 0, 1) := by decide +kernel
theorem dX9_begin_1 : decode cX9_begin 1 = .ok (.iload_n 1, 1) := by decide +kernel
theorem dX9_begin_2 : decode cX9_begin 2 = .ok (.invokevirtual 83, 3) := by decide +kernel
theorem dX9_begin_5 : decode cX9_begin 5 = .ok (.astore 4, 2) := by decide +kernel
theorem dX9_begin_7 : decode cX9_begin 7 = .ok (.aload 4, 2) := by decide +kernel
theorem dX9_begin_9 : decode cX9_begin 9 = .ok (.ifnull 12, 3) := by decide +kernel
theorem dX9_begin_12 : decode cX9_begin 12 = .ok (.iload_n 3, 1) := by decide +kernel
theorem dX9_begin_13 : decode cX9_begin 13 = .ok (.ifCond .lt 8, 3) := by decide +kernel
theorem dX9_begin_16 : decode cX9_begin 16 = .ok (.iload_n 3, 1) := by decide +kernel
theorem dX9_begin_17 : decode cX9_begin 17 = .ok (.iconst 5, 1) := by decide +kernel
theorem dX9_begin_18 : decode cX9_begin 18 = .ok (.if_icmp .le 7, 3) := by decide +kernel
theorem dX9_begin_21 : decode cX9_begin 21 = .ok (.sipush (-2001), 3) := by decide +kernel
theorem dX9_begin_24 : decode cX9_begin 24 = .ok (.ireturn, 1) := by decide +kernel
theorem dX9_begin_25 : decode cX9_begin 25 = .ok (.aload_n 0, 1) := by decide +kernel
theorem dX9_begin_26 : decode cX9_begin 26 = .ok (.iload_n 2, 1) := by decide +kernel
theorem dX9_begin_27 : decode cX9_begin 27 = .ok (.invokevirtual 51, 3) := by decide +kernel
theorem dX9_begin_30 : decode cX9_begin 30 = .ok (.astore 5, 2) := by decide +kernel
theorem dX9_begin_32 : decode cX9_begin 32 = .ok (.aload 5, 2) := by decide +kernel
theorem dX9_begin_34 : decode cX9_begin 34 = .ok (.ifnull 11, 3) := by decide +kernel
theorem dX9_begin_37 : decode cX9_begin 37 = .ok (.aload 5, 2) := by decide +kernel
theorem dX9_begin_39 : decode cX9_begin 39 = .ok (.getfield 70, 3) := by decide +kernel
theorem dX9_begin_42 : decode cX9_begin 42 = .ok (.ifCond .ne 7, 3) := by decide +kernel
theorem dX9_begin_45 : decode cX9_begin 45 = .ok (.sipush (-2003), 3) := by decide +kernel
theorem dX9_begin_48 : decode cX9_begin 48 = .ok (.ireturn, 1) := by decide +kernel
theorem dX9_begin_49 : decode cX9_begin 49 = .ok (.aload 4, 2) := by decide +kernel
theorem dX9_begin_51 : decode cX9_begin 51 = .ok (.aload 5, 2) := by decide +kernel
theorem dX9_begin_53 : decode cX9_begin 53 = .ok (.iload_n 3, 1) := by decide +kernel
theorem dX9_begin_54 : decode cX9_begin 54 = .ok (.invokevirtual 87, 3) := by decide +kernel
theorem dX9_begin_57 : decode cX9_begin 57 = .ok (.iconst 1, 1) := by decide +kernel
theorem dX9_begin_58 : decode cX9_begin 58 = .ok (.ireturn, 1) := by decide +kernel
theorem dX9_go_0 : decode cX9_go 0 = .ok (.aload_n 0, 1) := by decide +kernel
theorem dX9_go_1 : decode cX9_go 1 = .ok (.iload_n 1, 1) := by decide +kernel
theorem dX9_go_2 : decode cX9_go 2 = .ok (.invokevirtual 83, 3) := by decide +kernel
theorem dX9_go_5 : decode cX9_go 5 = .ok (.astore_n 3, 1) := by decide +kernel
theorem dX9_go_6 : decode cX9_go 6 = .ok (.aload_n 3, 1) := by decide +kernel
theorem dX9_go_7 : decode cX9_go 7 = .ok (.ifnull 15, 3) := by decide +kernel
theorem dX9_go_10 : decode cX9_go 10 = .ok (.iload_n 2, 1) := by decide +kernel
theorem dX9_go_11 : decode cX9_go 11 = .ok (.iconst 1, 1) := by decide +kernel
theorem dX9_go_12 : decode cX9_go 12 = .ok (.if_icmp .lt 10, 3) := by decide +kernel
theorem dX9_go_15 : decode cX9_go 15 = .ok (.iload_n 2, 1) := by decide +kernel
theorem dX9_go_16 : decode cX9_go 16 = .ok (.sipush 500, 3) := by decide +kernel
theorem dX9_go_19 : decode cX9_go 19 = .ok (.if_icmp .le 7, 3) := by decide +kernel
theorem dX9_go_22 : decode cX9_go 22 = .ok (.sipush (-2001), 3) := by decide +kernel
theorem dX9_go_25 : decode cX9_go 25 = .ok (.ireturn, 1) := by decide +kernel
theorem dX9_go_26 : decode cX9_go 26 = .ok (.aload_n 3, 1) := by decide +kernel
theorem dX9_go_27 : decode cX9_go 27 = .ok (.getfield 91, 3) := by decide +kernel
theorem dX9_go_30 : decode cX9_go 30 = .ok (.iconst 1, 1) := by decide +kernel
theorem dX9_go_31 : decode cX9_go 31 = .ok (.if_icmp .ne 12, 3) := by decide +kernel
theorem dX9_go_34 : decode cX9_go 34 = .ok (.aload_n 3, 1) := by decide +kernel
theorem dX9_go_35 : decode cX9_go 35 = .ok (.iload_n 2, 1) := by decide +kernel
theorem dX9_go_36 : decode cX9_go 36 = .ok (.iconst 1, 1) := by decide +kernel
theorem dX9_go_37 : decode cX9_go 37 = .ok (.invokevirtual 94, 3) := by decide +kernel
theorem dX9_go_40 : decode cX9_go 40 = .ok (.goto 6, 3) := by decide +kernel
theorem dX9_go_43 : decode cX9_go 43 = .ok (.sipush (-2003), 3) := by decide +kernel
theorem dX9_go_46 : decode cX9_go 46 = .ok (.ireturn, 1) := by decide +kernel
theorem dX9_all_0 : decode cX9_all 0 = .ok (.aload_n 0, 1) := by decide +kernel
theorem dX9_all_1 : decode cX9_all 1 = .ok (.iload_n 1, 1) := by decide +kernel
theorem dX9_all_2 : decode cX9_all 2 = .ok (.invokevirtual 83, 3) := by decide +kernel
theorem dX9_all_5 : decode cX9_all 5 = .ok (.astore_n 3, 1) := by decide +kernel
theorem dX9_all_6 : decode cX9_all 6 = .ok (.aload_n 3, 1) := by decide +kernel
theorem dX9_all_7 : decode cX9_all 7 = .ok (.ifnull 15, 3) := by decide +kernel
theorem dX9_all_10 : decode cX9_all 10 = .ok (.iload_n 2, 1) := by decide +kernel
theorem dX9_all_11 : decode cX9_all 11 = .ok (.iconst 1, 1) := by decide +kernel
theorem dX9_all_12 : decode cX9_all 12 = .ok (.if_icmp .lt 10, 3) := by decide +kernel
theorem dX9_all_15 : decode cX9_all 15 = .ok (.iload_n 2, 1) := by decide +kernel
theorem dX9_all_16 : decode cX9_all 16 = .ok (.sipush 2000, 3) := by decide +kernel
theorem dX9_all_19 : decode cX9_all 19 = .ok (.if_icmp .le 7, 3) := by decide +kernel
theorem dX9_all_22 : decode cX9_all 22 = .ok (.sipush (-2001), 3) := by decide +kernel
theorem dX9_all_25 : decode cX9_all 25 = .ok (.ireturn, 1) := by decide +kernel
theorem dX9_all_26 : decode cX9_all 26 = .ok (.aload_n 3, 1) := by decide +kernel
theorem dX9_all_27 : decode cX9_all 27 = .ok (.getfield 91, 3) := by decide +kernel
theorem dX9_all_30 : decode cX9_all 30 = .ok (.iconst 1, 1) := by decide +kernel
theorem dX9_all_31 : decode cX9_all 31 = .ok (.if_icmp .eq 7, 3) := by decide +kernel
theorem dX9_all_34 : decode cX9_all 34 = .ok (.sipush (-2003), 3) := by decide +kernel
theorem dX9_all_37 : decode cX9_all 37 = .ok (.ireturn, 1) := by decide +kernel
theorem dX9_all_38 : decode cX9_all 38 = .ok (.aload_n 3, 1) := by decide +kernel
theorem dX9_all_39 : decode cX9_all 39 = .ok (.getfield 98, 3) := by decide +kernel
theorem dX9_all_42 : decode cX9_all 42 = .ok (.getfield 102, 3) := by decide +kernel
theorem dX9_all_45 : decode cX9_all 45 = .ok (.istore 4, 2) := by decide +kernel
theorem dX9_all_47 : decode cX9_all 47 = .ok (.aload_n 3, 1) := by decide +kernel
theorem dX9_all_48 : decode cX9_all 48 = .ok (.iload_n 2, 1) := by decide +kernel
theorem dX9_all_49 : decode cX9_all 49 = .ok (.iconst 0, 1) := by decide +kernel
theorem dX9_all_50 : decode cX9_all 50 = .ok (.invokevirtual 94, 3) := by decide +kernel
theorem dX9_all_53 : decode cX9_all 53 = .ok (.pop, 1) := by decide +kernel
theorem dX9_all_54 : decode cX9_all 54 = .ok (.aload_n 3, 1) := by decide +kernel
theorem dX9_all_55 : decode cX9_all 55 = .ok (.getfield 98, 3) := by decide +kernel
theorem dX9_all_58 : decode cX9_all 58 = .ok (.getfield 102, 3) := by decide +kernel
theorem dX9_all_61 : decode cX9_all 61 = .ok (.iload 4, 2) := by decide +kernel
theorem dX9_all_63 : decode cX9_all 63 = .ok (.isub, 1) := by decide +kernel
theorem dX9_all_64 : decode cX9_all 64 = .ok (.ireturn, 1) := by decide +kernel
theorem dX9_of_0 : decode cX9_of 0 = .ok (.aload_n 0, 1) := by decide +kernel
theorem dX9_of_1 : decode cX9_of 1 = .ok (.iload_n 1, 1) := by decide +kernel
theorem dX9_of_2 : decode cX9_of 2 = .ok (.invokevirtual 83, 3) := by decide +kernel
theorem dX9_of_5 : decode cX9_of 5 = .ok (.astore_n 3, 1) := by decide +kernel
theorem dX9_of_6 : decode cX9_of 6 = .ok (.aload_n 3, 1) := by decide +kernel
theorem dX9_of_7 : decode cX9_of 7 = .ok (.ifnull 13, 3) := by decide +kernel
theorem dX9_of_10 : decode cX9_of 10 = .ok (.iload_n 2, 1) := by decide +kernel
theorem dX9_of_11 : decode cX9_of 11 = .ok (.ifCond .lt 9, 3) := by decide +kernel
theorem dX9_of_14 : decode cX9_of 14 = .ok (.iload_n 2, 1) := by decide +kernel
theorem dX9_of_15 : decode cX9_of 15 = .ok (.bipush 9, 2) := by decide +kernel
theorem dX9_of_17 : decode cX9_of 17 = .ok (.if_icmp .le 7, 3) := by decide +kernel
theorem dX9_of_20 : decode cX9_of 20 = .ok (.sipush (-2001), 3) := by decide +kernel
theorem dX9_of_23 : decode cX9_of 23 = .ok (.ireturn, 1) := by decide +kernel
theorem dX9_of_24 : decode cX9_of 24 = .ok (.iload_n 2, 1) := by decide +kernel
theorem dX9_of_25 : decode cX9_of 25 = .ok (.ifCond .ne 8, 3) := by decide +kernel
theorem dX9_of_28 : decode cX9_of 28 = .ok (.aload_n 3, 1) := by decide +kernel
theorem dX9_of_29 : decode cX9_of 29 = .ok (.getfield 91, 3) := by decide +kernel
theorem dX9_of_32 : decode cX9_of 32 = .ok (.ireturn, 1) := by decide +kernel
theorem dX9_of_33 : decode cX9_of 33 = .ok (.aload_n 3, 1) := by decide +kernel
theorem dX9_of_34 : decode cX9_of 34 = .ok (.getfield 91, 3) := by decide +kernel
theorem dX9_of_37 : decode cX9_of 37 = .ok (.ifCond .ne 9, 3) := by decide +kernel
theorem dX9_of_40 : decode cX9_of 40 = .ok (.sipush (-2003), 3) := by decide +kernel
theorem dX9_of_43 : decode cX9_of 43 = .ok (.goto 8, 3) := by decide +kernel
theorem dX9_of_46 : decode cX9_of 46 = .ok (.aload_n 3, 1) := by decide +kernel
theorem dX9_of_47 : decode cX9_of 47 = .ok (.iload_n 2, 1) := by decide +kernel
theorem dX9_of_48 : decode cX9_of 48 = .ok (.invokevirtual 105, 3) := by decide +kernel
theorem dX9_of_51 : decode cX9_of 51 = .ok (.ireturn, 1) := by decide +kernel
theorem dX9_answer_0 : decode cX9_answer 0 = .ok (.aload_n 0, 1) := by decide +kernel
theorem dX9_answer_1 : decode cX9_answer 1 = .ok (.iload_n 1, 1) := by decide +kernel
theorem dX9_answer_2 : decode cX9_answer 2 = .ok (.invokevirtual 83, 3) := by decide +kernel
theorem dX9_answer_5 : decode cX9_answer 5 = .ok (.astore 4, 2) := by decide +kernel
theorem dX9_answer_7 : decode cX9_answer 7 = .ok (.aload 4, 2) := by decide +kernel
theorem dX9_answer_9 : decode cX9_answer 9 = .ok (.ifnull 17, 3) := by decide +kernel
theorem dX9_answer_12 : decode cX9_answer 12 = .ok (.iload_n 2, 1) := by decide +kernel
theorem dX9_answer_13 : decode cX9_answer 13 = .ok (.ifCond .lt 13, 3) := by decide +kernel
theorem dX9_answer_16 : decode cX9_answer 16 = .ok (.iload_n 3, 1) := by decide +kernel
theorem dX9_answer_17 : decode cX9_answer 17 = .ok (.ifCond .lt 9, 3) := by decide +kernel
theorem dX9_answer_20 : decode cX9_answer 20 = .ok (.iload_n 3, 1) := by decide +kernel
theorem dX9_answer_21 : decode cX9_answer 21 = .ok (.bipush 12, 2) := by decide +kernel
theorem dX9_answer_23 : decode cX9_answer 23 = .ok (.if_icmp .lt 7, 3) := by decide +kernel
theorem dX9_answer_26 : decode cX9_answer 26 = .ok (.sipush (-2001), 3) := by decide +kernel
theorem dX9_answer_29 : decode cX9_answer 29 = .ok (.ireturn, 1) := by decide +kernel
theorem dX9_answer_30 : decode cX9_answer 30 = .ok (.aload 4, 2) := by decide +kernel
theorem dX9_answer_32 : decode cX9_answer 32 = .ok (.getfield 91, 3) := by decide +kernel
theorem dX9_answer_35 : decode cX9_answer 35 = .ok (.ifCond .ne 7, 3) := by decide +kernel
theorem dX9_answer_38 : decode cX9_answer 38 = .ok (.sipush (-2003), 3) := by decide +kernel
theorem dX9_answer_41 : decode cX9_answer 41 = .ok (.ireturn, 1) := by decide +kernel
theorem dX9_answer_42 : decode cX9_answer 42 = .ok (.iload_n 2, 1) := by decide +kernel
theorem dX9_answer_43 : decode cX9_answer 43 = .ok (.aload 4, 2) := by decide +kernel
theorem dX9_answer_45 : decode cX9_answer 45 = .ok (.getfield 98, 3) := by decide +kernel
theorem dX9_answer_48 : decode cX9_answer 48 = .ok (.getfield 102, 3) := by decide +kernel
theorem dX9_answer_51 : decode cX9_answer 51 = .ok (.if_icmp .ge 16, 3) := by decide +kernel
theorem dX9_answer_54 : decode cX9_answer 54 = .ok (.aload 4, 2) := by decide +kernel
theorem dX9_answer_56 : decode cX9_answer 56 = .ok (.getfield 98, 3) := by decide +kernel
theorem dX9_answer_59 : decode cX9_answer 59 = .ok (.iload_n 2, 1) := by decide +kernel
theorem dX9_answer_60 : decode cX9_answer 60 = .ok (.iload_n 3, 1) := by decide +kernel
theorem dX9_answer_61 : decode cX9_answer 61 = .ok (.invokevirtual 109, 3) := by decide +kernel
theorem dX9_answer_64 : decode cX9_answer 64 = .ok (.goto 6, 3) := by decide +kernel
theorem dX9_answer_67 : decode cX9_answer 67 = .ok (.sipush (-2002), 3) := by decide +kernel
theorem dX9_answer_70 : decode cX9_answer 70 = .ok (.ireturn, 1) := by decide +kernel
theorem dX9_next_0 : decode cX9_next 0 = .ok (.aload_n 0, 1) := by decide +kernel
theorem dX9_next_1 : decode cX9_next 1 = .ok (.iload_n 1, 1) := by decide +kernel
theorem dX9_next_2 : decode cX9_next 2 = .ok (.invokevirtual 83, 3) := by decide +kernel
theorem dX9_next_5 : decode cX9_next 5 = .ok (.astore_n 2, 1) := by decide +kernel
theorem dX9_next_6 : decode cX9_next 6 = .ok (.aload_n 2, 1) := by decide +kernel
theorem dX9_next_7 : decode cX9_next 7 = .ok (.ifnonnull 7, 3) := by decide +kernel
theorem dX9_next_10 : decode cX9_next 10 = .ok (.sipush (-2001), 3) := by decide +kernel
theorem dX9_next_13 : decode cX9_next 13 = .ok (.ireturn, 1) := by decide +kernel
theorem dX9_next_14 : decode cX9_next 14 = .ok (.aload_n 2, 1) := by decide +kernel
theorem dX9_next_15 : decode cX9_next 15 = .ok (.getfield 91, 3) := by decide +kernel
theorem dX9_next_18 : decode cX9_next 18 = .ok (.ifCond .ne 7, 3) := by decide +kernel
theorem dX9_next_21 : decode cX9_next 21 = .ok (.sipush (-2003), 3) := by decide +kernel
theorem dX9_next_24 : decode cX9_next 24 = .ok (.ireturn, 1) := by decide +kernel
theorem dX9_next_25 : decode cX9_next 25 = .ok (.aload_n 2, 1) := by decide +kernel
theorem dX9_next_26 : decode cX9_next 26 = .ok (.invokevirtual 126, 3) := by decide +kernel
theorem dX9_next_29 : decode cX9_next 29 = .ok (.ifCond .eq 10, 3) := by decide +kernel
theorem dX9_next_32 : decode cX9_next 32 = .ok (.aload_n 2, 1) := by decide +kernel
theorem dX9_next_33 : decode cX9_next 33 = .ok (.invokevirtual 130, 3) := by decide +kernel
theorem dX9_next_36 : decode cX9_next 36 = .ok (.goto 6, 3) := by decide +kernel
theorem dX9_next_39 : decode cX9_next 39 = .ok (.sipush (-2002), 3) := by decide +kernel
theorem dX9_next_42 : decode cX9_next 42 = .ok (.ireturn, 1) := by decide +kernel
theorem dX9_ordered_0 : decode cX9_ordered 0 = .ok (.aload_n 0, 1) := by decide +kernel
theorem dX9_ordered_1 : decode cX9_ordered 1 = .ok (.iload_n 1, 1) := by decide +kernel
theorem dX9_ordered_2 : decode cX9_ordered 2 = .ok (.invokevirtual 83, 3) := by decide +kernel
theorem dX9_ordered_5 : decode cX9_ordered 5 = .ok (.astore_n 3, 1) := by decide +kernel
theorem dX9_ordered_6 : decode cX9_ordered 6 = .ok (.aload_n 3, 1) := by decide +kernel
theorem dX9_ordered_7 : decode cX9_ordered 7 = .ok (.ifnull 7, 3) := by decide +kernel
theorem dX9_ordered_10 : decode cX9_ordered 10 = .ok (.iload_n 2, 1) := by decide +kernel
theorem dX9_ordered_11 : decode cX9_ordered 11 = .ok (.ifCond .ge 7, 3) := by decide +kernel
theorem dX9_ordered_14 : decode cX9_ordered 14 = .ok (.sipush (-2001), 3) := by decide +kernel
theorem dX9_ordered_17 : decode cX9_ordered 17 = .ok (.ireturn, 1) := by decide +kernel
theorem dX9_ordered_18 : decode cX9_ordered 18 = .ok (.aload_n 3, 1) := by decide +kernel
theorem dX9_ordered_19 : decode cX9_ordered 19 = .ok (.getfield 91, 3) := by decide +kernel
theorem dX9_ordered_22 : decode cX9_ordered 22 = .ok (.ifCond .ne 7, 3) := by decide +kernel
theorem dX9_ordered_25 : decode cX9_ordered 25 = .ok (.sipush (-2003), 3) := by decide +kernel
theorem dX9_ordered_28 : decode cX9_ordered 28 = .ok (.ireturn, 1) := by decide +kernel
theorem dX9_ordered_29 : decode cX9_ordered 29 = .ok (.iload_n 2, 1) := by decide +kernel
theorem dX9_ordered_30 : decode cX9_ordered 30 = .ok (.aload_n 3, 1) := by decide +kernel
theorem dX9_ordered_31 : decode cX9_ordered 31 = .ok (.getfield 98, 3) := by decide +kernel
theorem dX9_ordered_34 : decode cX9_ordered 34 = .ok (.getfield 102, 3) := by decide +kernel
theorem dX9_ordered_37 : decode cX9_ordered 37 = .ok (.if_icmp .ge 14, 3) := by decide +kernel
theorem dX9_ordered_40 : decode cX9_ordered 40 = .ok (.aload_n 3, 1) := by decide +kernel
theorem dX9_ordered_41 : decode cX9_ordered 41 = .ok (.getfield 98, 3) := by decide +kernel
theorem dX9_ordered_44 : decode cX9_ordered 44 = .ok (.iload_n 2, 1) := by decide +kernel
theorem dX9_ordered_45 : decode cX9_ordered 45 = .ok (.invokevirtual 133, 3) := by decide +kernel
theorem dX9_ordered_48 : decode cX9_ordered 48 = .ok (.goto 6, 3) := by decide +kernel
theorem dX9_ordered_51 : decode cX9_ordered 51 = .ok (.sipush (-2002), 3) := by decide +kernel
theorem dX9_ordered_54 : decode cX9_ordered 54 = .ok (.ireturn, 1) := by decide +kernel
theorem dX9_common_0 : decode cX9_common 0 = .ok (.aload_n 0, 1) := by decide +kernel
theorem dX9_common_1 : decode cX9_common 1 = .ok (.iload_n 1, 1) := by decide +kernel
theorem dX9_common_2 : decode cX9_common 2 = .ok (.invokevirtual 83, 3) := by decide +kernel
theorem dX9_common_5 : decode cX9_common 5 = .ok (.astore_n 3, 1) := by decide +kernel
theorem dX9_common_6 : decode cX9_common 6 = .ok (.aload_n 0, 1) := by decide +kernel
theorem dX9_common_7 : decode cX9_common 7 = .ok (.iload_n 2, 1) := by decide +kernel
theorem dX9_common_8 : decode cX9_common 8 = .ok (.invokevirtual 83, 3) := by decide +kernel
theorem dX9_common_11 : decode cX9_common 11 = .ok (.astore 4, 2) := by decide +kernel
theorem dX9_common_13 : decode cX9_common 13 = .ok (.aload_n 3, 1) := by decide +kernel
theorem dX9_common_14 : decode cX9_common 14 = .ok (.ifnull 8, 3) := by decide +kernel
theorem dX9_common_17 : decode cX9_common 17 = .ok (.aload 4, 2) := by decide +kernel
theorem dX9_common_19 : decode cX9_common 19 = .ok (.ifnonnull 7, 3) := by decide +kernel
theorem dX9_common_22 : decode cX9_common 22 = .ok (.sipush (-2001), 3) := by decide +kernel
theorem dX9_common_25 : decode cX9_common 25 = .ok (.ireturn, 1) := by decide +kernel
theorem dX9_common_26 : decode cX9_common 26 = .ok (.aload_n 3, 1) := by decide +kernel
theorem dX9_common_27 : decode cX9_common 27 = .ok (.getfield 91, 3) := by decide +kernel
theorem dX9_common_30 : decode cX9_common 30 = .ok (.ifCond .eq 11, 3) := by decide +kernel
theorem dX9_common_33 : decode cX9_common 33 = .ok (.aload 4, 2) := by decide +kernel
theorem dX9_common_35 : decode cX9_common 35 = .ok (.getfield 91, 3) := by decide +kernel
theorem dX9_common_38 : decode cX9_common 38 = .ok (.ifCond .ne 7, 3) := by decide +kernel
theorem dX9_common_41 : decode cX9_common 41 = .ok (.sipush (-2003), 3) := by decide +kernel
theorem dX9_common_44 : decode cX9_common 44 = .ok (.ireturn, 1) := by decide +kernel
theorem dX9_common_45 : decode cX9_common 45 = .ok (.aload_n 3, 1) := by decide +kernel
theorem dX9_common_46 : decode cX9_common 46 = .ok (.getfield 98, 3) := by decide +kernel
theorem dX9_common_49 : decode cX9_common 49 = .ok (.aload 4, 2) := by decide +kernel
theorem dX9_common_51 : decode cX9_common 51 = .ok (.getfield 98, 3) := by decide +kernel
theorem dX9_common_54 : decode cX9_common 54 = .ok (.invokevirtual 136, 3) := by decide +kernel
theorem dX9_common_57 : decode cX9_common 57 = .ok (.ireturn, 1) := by decide +kernel
theorem dX9_unlike_0 : decode cX9_unlike 0 = .ok (.aload_n 0, 1) := by decide +kernel
theorem dX9_unlike_1 : decode cX9_unlike 1 = .ok (.iload_n 1, 1) := by decide +kernel
theorem dX9_unlike_2 : decode cX9_unlike 2 = .ok (.invokevirtual 83, 3) := by decide +kernel
theorem dX9_unlike_5 : decode cX9_unlike 5 = .ok (.astore_n 2, 1) := by decide +kernel
theorem dX9_unlike_6 : decode cX9_unlike 6 = .ok (.aload_n 2, 1) := by decide +kernel
theorem dX9_unlike_7 : decode cX9_unlike 7 = .ok (.ifnonnull 7, 3) := by decide +kernel
theorem dX9_unlike_10 : decode cX9_unlike 10 = .ok (.sipush (-2001), 3) := by decide +kernel
theorem dX9_unlike_13 : decode cX9_unlike 13 = .ok (.ireturn, 1) := by decide +kernel
theorem dX9_unlike_14 : decode cX9_unlike 14 = .ok (.aload_n 2, 1) := by decide +kernel
theorem dX9_unlike_15 : decode cX9_unlike 15 = .ok (.getfield 91, 3) := by decide +kernel
theorem dX9_unlike_18 : decode cX9_unlike 18 = .ok (.ifCond .ne 9, 3) := by decide +kernel
theorem dX9_unlike_21 : decode cX9_unlike 21 = .ok (.sipush (-2003), 3) := by decide +kernel
theorem dX9_unlike_24 : decode cX9_unlike 24 = .ok (.goto 10, 3) := by decide +kernel
theorem dX9_unlike_27 : decode cX9_unlike 27 = .ok (.aload_n 2, 1) := by decide +kernel
theorem dX9_unlike_28 : decode cX9_unlike 28 = .ok (.getfield 98, 3) := by decide +kernel
theorem dX9_unlike_31 : decode cX9_unlike 31 = .ok (.invokevirtual 140, 3) := by decide +kernel
theorem dX9_unlike_34 : decode cX9_unlike 34 = .ok (.ireturn, 1) := by decide +kernel
theorem dX9_programAt_0 : decode cX9_programAt 0 = .ok (.iload_n 1, 1) := by decide +kernel
theorem dX9_programAt_1 : decode cX9_programAt 1 = .ok (.ifCond .lt 21, 3) := by decide +kernel
theorem dX9_programAt_4 : decode cX9_programAt 4 = .ok (.iload_n 1, 1) := by decide +kernel
theorem dX9_programAt_5 : decode cX9_programAt 5 = .ok (.aload_n 0, 1) := by decide +kernel
theorem dX9_programAt_6 : decode cX9_programAt 6 = .ok (.getfield 27, 3) := by decide +kernel
theorem dX9_programAt_9 : decode cX9_programAt 9 = .ok (.arraylength, 1) := by decide +kernel
theorem dX9_programAt_10 : decode cX9_programAt 10 = .ok (.if_icmp .ge 12, 3) := by decide +kernel
theorem dX9_programAt_13 : decode cX9_programAt 13 = .ok (.aload_n 0, 1) := by decide +kernel
theorem dX9_programAt_14 : decode cX9_programAt 14 = .ok (.getfield 27, 3) := by decide +kernel
theorem dX9_programAt_17 : decode cX9_programAt 17 = .ok (.iload_n 1, 1) := by decide +kernel
theorem dX9_programAt_18 : decode cX9_programAt 18 = .ok (.aaload, 1) := by decide +kernel
theorem dX9_programAt_19 : decode cX9_programAt 19 = .ok (.goto 4, 3) := by decide +kernel
theorem dX9_programAt_22 : decode cX9_programAt 22 = .ok (.aconst_null, 1) := by decide +kernel
theorem dX9_programAt_23 : decode cX9_programAt 23 = .ok (.areturn, 1) := by decide +kernel
theorem dX9_searchAt_0 : decode cX9_searchAt 0 = .ok (.iload_n 1, 1) := by decide +kernel
theorem dX9_searchAt_1 : decode cX9_searchAt 1 = .ok (.ifCond .lt 21, 3) := by decide +kernel
theorem dX9_searchAt_4 : decode cX9_searchAt 4 = .ok (.iload_n 1, 1) := by decide +kernel
theorem dX9_searchAt_5 : decode cX9_searchAt 5 = .ok (.aload_n 0, 1) := by decide +kernel
theorem dX9_searchAt_6 : decode cX9_searchAt 6 = .ok (.getfield 33, 3) := by decide +kernel
theorem dX9_searchAt_9 : decode cX9_searchAt 9 = .ok (.arraylength, 1) := by decide +kernel
theorem dX9_searchAt_10 : decode cX9_searchAt 10 = .ok (.if_icmp .ge 12, 3) := by decide +kernel
theorem dX9_searchAt_13 : decode cX9_searchAt 13 = .ok (.aload_n 0, 1) := by decide +kernel
theorem dX9_searchAt_14 : decode cX9_searchAt 14 = .ok (.getfield 33, 3) := by decide +kernel
theorem dX9_searchAt_17 : decode cX9_searchAt 17 = .ok (.iload_n 1, 1) := by decide +kernel
theorem dX9_searchAt_18 : decode cX9_searchAt 18 = .ok (.aaload, 1) := by decide +kernel
theorem dX9_searchAt_19 : decode cX9_searchAt 19 = .ok (.goto 4, 3) := by decide +kernel
theorem dX9_searchAt_22 : decode cX9_searchAt 22 = .ok (.aconst_null, 1) := by decide +kernel
theorem dX9_searchAt_23 : decode cX9_searchAt 23 = .ok (.areturn, 1) := by decide +kernel
theorem dX9_isValue_0 : decode cX9_isValue 0 = .ok (.iload_n 0, 1) := by decide +kernel
theorem dX9_isValue_1 : decode cX9_isValue 1 = .ok (.sipush (-999), 3) := by decide +kernel
theorem dX9_isValue_4 : decode cX9_isValue 4 = .ok (.if_icmp .lt 14, 3) := by decide +kernel
theorem dX9_isValue_7 : decode cX9_isValue 7 = .ok (.iload_n 0, 1) := by decide +kernel
theorem dX9_isValue_8 : decode cX9_isValue 8 = .ok (.sipush 999, 3) := by decide +kernel
theorem dX9_isValue_11 : decode cX9_isValue 11 = .ok (.if_icmp .gt 7, 3) := by decide +kernel
theorem dX9_isValue_14 : decode cX9_isValue 14 = .ok (.iconst 1, 1) := by decide +kernel
theorem dX9_isValue_15 : decode cX9_isValue 15 = .ok (.goto 4, 3) := by decide +kernel
theorem dX9_isValue_18 : decode cX9_isValue 18 = .ok (.iconst 0, 1) := by decide +kernel
theorem dX9_isValue_19 : decode cX9_isValue 19 = .ok (.ireturn, 1) := by decide +kernel
