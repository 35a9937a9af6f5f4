/-! the law: its methods, its instructions -/
def qL_cell : ZMeth := (⟨RL, "cell", "([II)I"⟩, method_2_code, 2, some .int, RL)
def qL_number : ZMeth := (⟨RL, "number", "(LTrailSearch;I)Z"⟩, method_4_code, 3, some .boolean, RL)
def qL_law : ZMeth := (⟨RL, "law", "([I)Z"⟩, code, 24, some .boolean, RL)
theorem kL_cell : zKS qL_cell 2 := ⟨z_in 822 (by decide +kernel) rfl, z_in 40 (by decide +kernel) rfl, ⟨by decide +kernel, by decide +kernel, by decide +kernel⟩, z_in 821 (by decide +kernel) rfl⟩
theorem kL_number : zKS qL_number 2 := ⟨z_in 826 (by decide +kernel) rfl, z_in 40 (by decide +kernel) rfl, ⟨by decide +kernel, by decide +kernel, by decide +kernel⟩, z_in 825 (by decide +kernel) rfl⟩
theorem lmL_11 : zML RL 11 qL_cell.1 := Or.inl (z_in 820 (by decide +kernel) rfl)
theorem lmL_21 : zML RL 21 qL_number.1 := Or.inl (z_in 824 (by decide +kernel) rfl)
theorem dXL_cell_0 : decode qL_cell.2.1 0 = .ok (.iload_n 1, 1) := by decide +kernel
theorem dXL_cell_1 : decode qL_cell.2.1 1 = .ok (.aload_n 0, 1) := by decide +kernel
theorem dXL_cell_2 : decode qL_cell.2.1 2 = .ok (.arraylength, 1) := by decide +kernel
theorem dXL_cell_3 : decode qL_cell.2.1 3 = .ok (.if_icmp .ge 9, 3) := by decide +kernel
theorem dXL_cell_6 : decode qL_cell.2.1 6 = .ok (.aload_n 0, 1) := by decide +kernel
theorem dXL_cell_7 : decode qL_cell.2.1 7 = .ok (.iload_n 1, 1) := by decide +kernel
theorem dXL_cell_8 : decode qL_cell.2.1 8 = .ok (.iaload, 1) := by decide +kernel
theorem dXL_cell_9 : decode qL_cell.2.1 9 = .ok (.goto 7, 3) := by decide +kernel
theorem dXL_cell_12 : decode qL_cell.2.1 12 = .ok (.ldc 7, 2) := by decide +kernel
theorem dXL_cell_14 : decode qL_cell.2.1 14 = .ok (.iload_n 1, 1) := by decide +kernel
theorem dXL_cell_15 : decode qL_cell.2.1 15 = .ok (.imul, 1) := by decide +kernel
theorem dXL_cell_16 : decode qL_cell.2.1 16 = .ok (.ireturn, 1) := by decide +kernel
theorem dXL_number_0 : decode qL_number.2.1 0 = .ok (.iload_n 1, 1) := by decide +kernel
theorem dXL_number_1 : decode qL_number.2.1 1 = .ok (.ifCond .ge 8, 3) := by decide +kernel
theorem dXL_number_4 : decode qL_number.2.1 4 = .ok (.iload_n 1, 1) := by decide +kernel
theorem dXL_number_5 : decode qL_number.2.1 5 = .ok (.ineg, 1) := by decide +kernel
theorem dXL_number_6 : decode qL_number.2.1 6 = .ok (.goto 4, 3) := by decide +kernel
theorem dXL_number_9 : decode qL_number.2.1 9 = .ok (.iload_n 1, 1) := by decide +kernel
theorem dXL_number_10 : decode qL_number.2.1 10 = .ok (.istore_n 2, 1) := by decide +kernel
theorem dXL_number_11 : decode qL_number.2.1 11 = .ok (.iload_n 1, 1) := by decide +kernel
theorem dXL_number_12 : decode qL_number.2.1 12 = .ok (.ifCond .ge 12, 3) := by decide +kernel
theorem dXL_number_15 : decode qL_number.2.1 15 = .ok (.aload_n 0, 1) := by decide +kernel
theorem dXL_number_16 : decode qL_number.2.1 16 = .ok (.bipush 45, 2) := by decide +kernel
theorem dXL_number_18 : decode qL_number.2.1 18 = .ok (.invokevirtual 17, 3) := by decide +kernel
theorem dXL_number_21 : decode qL_number.2.1 21 = .ok (.ifCond .le 41, 3) := by decide +kernel
theorem dXL_number_24 : decode qL_number.2.1 24 = .ok (.iload_n 2, 1) := by decide +kernel
theorem dXL_number_25 : decode qL_number.2.1 25 = .ok (.bipush 10, 2) := by decide +kernel
theorem dXL_number_27 : decode qL_number.2.1 27 = .ok (.if_icmp .lt 17, 3) := by decide +kernel
theorem dXL_number_30 : decode qL_number.2.1 30 = .ok (.aload_n 0, 1) := by decide +kernel
theorem dXL_number_31 : decode qL_number.2.1 31 = .ok (.bipush 48, 2) := by decide +kernel
theorem dXL_number_33 : decode qL_number.2.1 33 = .ok (.iload_n 2, 1) := by decide +kernel
theorem dXL_number_34 : decode qL_number.2.1 34 = .ok (.bipush 10, 2) := by decide +kernel
theorem dXL_number_36 : decode qL_number.2.1 36 = .ok (.idiv, 1) := by decide +kernel
theorem dXL_number_37 : decode qL_number.2.1 37 = .ok (.iadd, 1) := by decide +kernel
theorem dXL_number_38 : decode qL_number.2.1 38 = .ok (.invokevirtual 17, 3) := by decide +kernel
theorem dXL_number_41 : decode qL_number.2.1 41 = .ok (.ifCond .le 21, 3) := by decide +kernel
theorem dXL_number_44 : decode qL_number.2.1 44 = .ok (.aload_n 0, 1) := by decide +kernel
theorem dXL_number_45 : decode qL_number.2.1 45 = .ok (.bipush 48, 2) := by decide +kernel
theorem dXL_number_47 : decode qL_number.2.1 47 = .ok (.iload_n 2, 1) := by decide +kernel
theorem dXL_number_48 : decode qL_number.2.1 48 = .ok (.bipush 10, 2) := by decide +kernel
theorem dXL_number_50 : decode qL_number.2.1 50 = .ok (.irem, 1) := by decide +kernel
theorem dXL_number_51 : decode qL_number.2.1 51 = .ok (.iadd, 1) := by decide +kernel
theorem dXL_number_52 : decode qL_number.2.1 52 = .ok (.invokevirtual 17, 3) := by decide +kernel
theorem dXL_number_55 : decode qL_number.2.1 55 = .ok (.ifCond .le 7, 3) := by decide +kernel
theorem dXL_number_58 : decode qL_number.2.1 58 = .ok (.iconst 1, 1) := by decide +kernel
theorem dXL_number_59 : decode qL_number.2.1 59 = .ok (.goto 4, 3) := by decide +kernel
theorem dXL_number_62 : decode qL_number.2.1 62 = .ok (.iconst 0, 1) := by decide +kernel
theorem dXL_number_63 : decode qL_number.2.1 63 = .ok (.ireturn, 1) := by decide +kernel
theorem dXL_law_0 : decode qL_law.2.1 0 = .ok (.new 8, 3) := by decide +kernel
theorem dXL_law_3 : decode qL_law.2.1 3 = .ok (.dup, 1) := by decide +kernel
theorem dXL_law_4 : decode qL_law.2.1 4 = .ok (.invokespecial 10, 3) := by decide +kernel
theorem dXL_law_7 : decode qL_law.2.1 7 = .ok (.astore_n 1, 1) := by decide +kernel
theorem dXL_law_8 : decode qL_law.2.1 8 = .ok (.aload_n 0, 1) := by decide +kernel
theorem dXL_law_9 : decode qL_law.2.1 9 = .ok (.iconst 0, 1) := by decide +kernel
theorem dXL_law_10 : decode qL_law.2.1 10 = .ok (.invokestatic 11, 3) := by decide +kernel
theorem dXL_law_13 : decode qL_law.2.1 13 = .ok (.istore_n 2, 1) := by decide +kernel
theorem dXL_law_14 : decode qL_law.2.1 14 = .ok (.iload_n 2, 1) := by decide +kernel
theorem dXL_law_15 : decode qL_law.2.1 15 = .ok (.iconst 1, 1) := by decide +kernel
theorem dXL_law_16 : decode qL_law.2.1 16 = .ok (.iushr, 1) := by decide +kernel
theorem dXL_law_17 : decode qL_law.2.1 17 = .ok (.iconst 4, 1) := by decide +kernel
theorem dXL_law_18 : decode qL_law.2.1 18 = .ok (.irem, 1) := by decide +kernel
theorem dXL_law_19 : decode qL_law.2.1 19 = .ok (.iconst 3, 1) := by decide +kernel
theorem dXL_law_20 : decode qL_law.2.1 20 = .ok (.isub, 1) := by decide +kernel
theorem dXL_law_21 : decode qL_law.2.1 21 = .ok (.istore_n 3, 1) := by decide +kernel
theorem dXL_law_22 : decode qL_law.2.1 22 = .ok (.iload_n 3, 1) := by decide +kernel
theorem dXL_law_23 : decode qL_law.2.1 23 = .ok (.iload_n 2, 1) := by decide +kernel
theorem dXL_law_24 : decode qL_law.2.1 24 = .ok (.iconst 4, 1) := by decide +kernel
theorem dXL_law_25 : decode qL_law.2.1 25 = .ok (.iushr, 1) := by decide +kernel
theorem dXL_law_26 : decode qL_law.2.1 26 = .ok (.iconst 5, 1) := by decide +kernel
theorem dXL_law_27 : decode qL_law.2.1 27 = .ok (.irem, 1) := by decide +kernel
theorem dXL_law_28 : decode qL_law.2.1 28 = .ok (.iadd, 1) := by decide +kernel
theorem dXL_law_29 : decode qL_law.2.1 29 = .ok (.iconst 1, 1) := by decide +kernel
theorem dXL_law_30 : decode qL_law.2.1 30 = .ok (.isub, 1) := by decide +kernel
theorem dXL_law_31 : decode qL_law.2.1 31 = .ok (.istore 4, 2) := by decide +kernel
theorem dXL_law_33 : decode qL_law.2.1 33 = .ok (.iconst 3, 1) := by decide +kernel
theorem dXL_law_34 : decode qL_law.2.1 34 = .ok (.newarray .int, 2) := by decide +kernel
theorem dXL_law_36 : decode qL_law.2.1 36 = .ok (.astore 5, 2) := by decide +kernel
theorem dXL_law_38 : decode qL_law.2.1 38 = .ok (.iconst 0, 1) := by decide +kernel
theorem dXL_law_39 : decode qL_law.2.1 39 = .ok (.istore 6, 2) := by decide +kernel
theorem dXL_law_41 : decode qL_law.2.1 41 = .ok (.iload 6, 2) := by decide +kernel
theorem dXL_law_43 : decode qL_law.2.1 43 = .ok (.iconst 3, 1) := by decide +kernel
theorem dXL_law_44 : decode qL_law.2.1 44 = .ok (.if_icmp .ge 26, 3) := by decide +kernel
theorem dXL_law_47 : decode qL_law.2.1 47 = .ok (.aload 5, 2) := by decide +kernel
theorem dXL_law_49 : decode qL_law.2.1 49 = .ok (.iload 6, 2) := by decide +kernel
theorem dXL_law_51 : decode qL_law.2.1 51 = .ok (.iload_n 2, 1) := by decide +kernel
theorem dXL_law_52 : decode qL_law.2.1 52 = .ok (.bipush 7, 2) := by decide +kernel
theorem dXL_law_54 : decode qL_law.2.1 54 = .ok (.iconst 3, 1) := by decide +kernel
theorem dXL_law_55 : decode qL_law.2.1 55 = .ok (.iload 6, 2) := by decide +kernel
theorem dXL_law_57 : decode qL_law.2.1 57 = .ok (.imul, 1) := by decide +kernel
theorem dXL_law_58 : decode qL_law.2.1 58 = .ok (.iadd, 1) := by decide +kernel
theorem dXL_law_59 : decode qL_law.2.1 59 = .ok (.iushr, 1) := by decide +kernel
theorem dXL_law_60 : decode qL_law.2.1 60 = .ok (.bipush 9, 2) := by decide +kernel
theorem dXL_law_62 : decode qL_law.2.1 62 = .ok (.irem, 1) := by decide +kernel
theorem dXL_law_63 : decode qL_law.2.1 63 = .ok (.iastore, 1) := by decide +kernel
theorem dXL_law_64 : decode qL_law.2.1 64 = .ok (.iinc 6 1, 3) := by decide +kernel
theorem dXL_law_67 : decode qL_law.2.1 67 = .ok (.goto (-26), 3) := by decide +kernel
theorem dXL_law_70 : decode qL_law.2.1 70 = .ok (.iload_n 2, 1) := by decide +kernel
theorem dXL_law_71 : decode qL_law.2.1 71 = .ok (.bipush 16, 2) := by decide +kernel
theorem dXL_law_73 : decode qL_law.2.1 73 = .ok (.iushr, 1) := by decide +kernel
theorem dXL_law_74 : decode qL_law.2.1 74 = .ok (.iconst 5, 1) := by decide +kernel
theorem dXL_law_75 : decode qL_law.2.1 75 = .ok (.irem, 1) := by decide +kernel
theorem dXL_law_76 : decode qL_law.2.1 76 = .ok (.istore 6, 2) := by decide +kernel
theorem dXL_law_78 : decode qL_law.2.1 78 = .ok (.iload_n 2, 1) := by decide +kernel
theorem dXL_law_79 : decode qL_law.2.1 79 = .ok (.bipush 19, 2) := by decide +kernel
theorem dXL_law_81 : decode qL_law.2.1 81 = .ok (.iushr, 1) := by decide +kernel
theorem dXL_law_82 : decode qL_law.2.1 82 = .ok (.bipush 9, 2) := by decide +kernel
theorem dXL_law_84 : decode qL_law.2.1 84 = .ok (.irem, 1) := by decide +kernel
theorem dXL_law_85 : decode qL_law.2.1 85 = .ok (.iconst 4, 1) := by decide +kernel
theorem dXL_law_86 : decode qL_law.2.1 86 = .ok (.isub, 1) := by decide +kernel
theorem dXL_law_87 : decode qL_law.2.1 87 = .ok (.istore 7, 2) := by decide +kernel
theorem dXL_law_89 : decode qL_law.2.1 89 = .ok (.iload_n 2, 1) := by decide +kernel
theorem dXL_law_90 : decode qL_law.2.1 90 = .ok (.bipush 23, 2) := by decide +kernel
theorem dXL_law_92 : decode qL_law.2.1 92 = .ok (.iushr, 1) := by decide +kernel
theorem dXL_law_93 : decode qL_law.2.1 93 = .ok (.iconst 4, 1) := by decide +kernel
theorem dXL_law_94 : decode qL_law.2.1 94 = .ok (.irem, 1) := by decide +kernel
theorem dXL_law_95 : decode qL_law.2.1 95 = .ok (.istore 8, 2) := by decide +kernel
theorem dXL_law_97 : decode qL_law.2.1 97 = .ok (.aload_n 1, 1) := by decide +kernel
theorem dXL_law_98 : decode qL_law.2.1 98 = .ok (.bipush 97, 2) := by decide +kernel
theorem dXL_law_100 : decode qL_law.2.1 100 = .ok (.invokevirtual 17, 3) := by decide +kernel
theorem dXL_law_103 : decode qL_law.2.1 103 = .ok (.ifCond .le 74, 3) := by decide +kernel
theorem dXL_law_106 : decode qL_law.2.1 106 = .ok (.aload_n 1, 1) := by decide +kernel
theorem dXL_law_107 : decode qL_law.2.1 107 = .ok (.bipush 63, 2) := by decide +kernel
theorem dXL_law_109 : decode qL_law.2.1 109 = .ok (.invokevirtual 17, 3) := by decide +kernel
theorem dXL_law_112 : decode qL_law.2.1 112 = .ok (.ifCond .le 65, 3) := by decide +kernel
theorem dXL_law_115 : decode qL_law.2.1 115 = .ok (.aload_n 1, 1) := by decide +kernel
theorem dXL_law_116 : decode qL_law.2.1 116 = .ok (.iload_n 3, 1) := by decide +kernel
theorem dXL_law_117 : decode qL_law.2.1 117 = .ok (.invokestatic 21, 3) := by decide +kernel
theorem dXL_law_120 : decode qL_law.2.1 120 = .ok (.ifCond .eq 57, 3) := by decide +kernel
theorem dXL_law_123 : decode qL_law.2.1 123 = .ok (.aload_n 1, 1) := by decide +kernel
theorem dXL_law_124 : decode qL_law.2.1 124 = .ok (.bipush 44, 2) := by decide +kernel
theorem dXL_law_126 : decode qL_law.2.1 126 = .ok (.invokevirtual 17, 3) := by decide +kernel
theorem dXL_law_129 : decode qL_law.2.1 129 = .ok (.ifCond .le 48, 3) := by decide +kernel
theorem dXL_law_132 : decode qL_law.2.1 132 = .ok (.aload_n 1, 1) := by decide +kernel
theorem dXL_law_133 : decode qL_law.2.1 133 = .ok (.iload 4, 2) := by decide +kernel
theorem dXL_law_135 : decode qL_law.2.1 135 = .ok (.invokestatic 21, 3) := by decide +kernel
theorem dXL_law_138 : decode qL_law.2.1 138 = .ok (.ifCond .eq 39, 3) := by decide +kernel
theorem dXL_law_141 : decode qL_law.2.1 141 = .ok (.aload_n 1, 1) := by decide +kernel
theorem dXL_law_142 : decode qL_law.2.1 142 = .ok (.bipush 59, 2) := by decide +kernel
theorem dXL_law_144 : decode qL_law.2.1 144 = .ok (.invokevirtual 17, 3) := by decide +kernel
theorem dXL_law_147 : decode qL_law.2.1 147 = .ok (.ifCond .le 30, 3) := by decide +kernel
theorem dXL_law_150 : decode qL_law.2.1 150 = .ok (.aload_n 1, 1) := by decide +kernel
theorem dXL_law_151 : decode qL_law.2.1 151 = .ok (.bipush 98, 2) := by decide +kernel
theorem dXL_law_153 : decode qL_law.2.1 153 = .ok (.invokevirtual 17, 3) := by decide +kernel
theorem dXL_law_156 : decode qL_law.2.1 156 = .ok (.ifCond .le 21, 3) := by decide +kernel
theorem dXL_law_159 : decode qL_law.2.1 159 = .ok (.aload_n 1, 1) := by decide +kernel
theorem dXL_law_160 : decode qL_law.2.1 160 = .ok (.bipush 63, 2) := by decide +kernel
theorem dXL_law_162 : decode qL_law.2.1 162 = .ok (.invokevirtual 17, 3) := by decide +kernel
theorem dXL_law_165 : decode qL_law.2.1 165 = .ok (.ifCond .le 12, 3) := by decide +kernel
theorem dXL_law_168 : decode qL_law.2.1 168 = .ok (.aload_n 1, 1) := by decide +kernel
theorem dXL_law_169 : decode qL_law.2.1 169 = .ok (.bipush 123, 2) := by decide +kernel
theorem dXL_law_171 : decode qL_law.2.1 171 = .ok (.invokevirtual 17, 3) := by decide +kernel
theorem dXL_law_174 : decode qL_law.2.1 174 = .ok (.ifCond .gt 5, 3) := by decide +kernel
theorem dXL_law_177 : decode qL_law.2.1 177 = .ok (.iconst 0, 1) := by decide +kernel
theorem dXL_law_178 : decode qL_law.2.1 178 = .ok (.ireturn, 1) := by decide +kernel
theorem dXL_law_179 : decode qL_law.2.1 179 = .ok (.iconst 0, 1) := by decide +kernel
theorem dXL_law_180 : decode qL_law.2.1 180 = .ok (.istore 9, 2) := by decide +kernel
theorem dXL_law_182 : decode qL_law.2.1 182 = .ok (.iload 9, 2) := by decide +kernel
theorem dXL_law_184 : decode qL_law.2.1 184 = .ok (.iconst 3, 1) := by decide +kernel
theorem dXL_law_185 : decode qL_law.2.1 185 = .ok (.if_icmp .ge 39, 3) := by decide +kernel
theorem dXL_law_188 : decode qL_law.2.1 188 = .ok (.aload_n 1, 1) := by decide +kernel
theorem dXL_law_189 : decode qL_law.2.1 189 = .ok (.aload 5, 2) := by decide +kernel
theorem dXL_law_191 : decode qL_law.2.1 191 = .ok (.iload 9, 2) := by decide +kernel
theorem dXL_law_193 : decode qL_law.2.1 193 = .ok (.iaload, 1) := by decide +kernel
theorem dXL_law_194 : decode qL_law.2.1 194 = .ok (.invokestatic 21, 3) := by decide +kernel
theorem dXL_law_197 : decode qL_law.2.1 197 = .ok (.ifCond .eq 19, 3) := by decide +kernel
theorem dXL_law_200 : decode qL_law.2.1 200 = .ok (.iload 9, 2) := by decide +kernel
theorem dXL_law_202 : decode qL_law.2.1 202 = .ok (.iconst 2, 1) := by decide +kernel
theorem dXL_law_203 : decode qL_law.2.1 203 = .ok (.if_icmp .ge 15, 3) := by decide +kernel
theorem dXL_law_206 : decode qL_law.2.1 206 = .ok (.aload_n 1, 1) := by decide +kernel
theorem dXL_law_207 : decode qL_law.2.1 207 = .ok (.bipush 44, 2) := by decide +kernel
theorem dXL_law_209 : decode qL_law.2.1 209 = .ok (.invokevirtual 17, 3) := by decide +kernel
theorem dXL_law_212 : decode qL_law.2.1 212 = .ok (.iconst 1, 1) := by decide +kernel
theorem dXL_law_213 : decode qL_law.2.1 213 = .ok (.if_icmp .ge 5, 3) := by decide +kernel
theorem dXL_law_216 : decode qL_law.2.1 216 = .ok (.iconst 0, 1) := by decide +kernel
theorem dXL_law_217 : decode qL_law.2.1 217 = .ok (.ireturn, 1) := by decide +kernel
theorem dXL_law_218 : decode qL_law.2.1 218 = .ok (.iinc 9 1, 3) := by decide +kernel
theorem dXL_law_221 : decode qL_law.2.1 221 = .ok (.goto (-39), 3) := by decide +kernel
theorem dXL_law_224 : decode qL_law.2.1 224 = .ok (.aload_n 1, 1) := by decide +kernel
theorem dXL_law_225 : decode qL_law.2.1 225 = .ok (.bipush 125, 2) := by decide +kernel
theorem dXL_law_227 : decode qL_law.2.1 227 = .ok (.invokevirtual 17, 3) := by decide +kernel
theorem dXL_law_230 : decode qL_law.2.1 230 = .ok (.ifCond .le 197, 3) := by decide +kernel
theorem dXL_law_233 : decode qL_law.2.1 233 = .ok (.aload_n 1, 1) := by decide +kernel
theorem dXL_law_234 : decode qL_law.2.1 234 = .ok (.bipush 59, 2) := by decide +kernel
theorem dXL_law_236 : decode qL_law.2.1 236 = .ok (.invokevirtual 17, 3) := by decide +kernel
theorem dXL_law_239 : decode qL_law.2.1 239 = .ok (.ifCond .le 188, 3) := by decide +kernel
theorem dXL_law_242 : decode qL_law.2.1 242 = .ok (.aload_n 1, 1) := by decide +kernel
theorem dXL_law_243 : decode qL_law.2.1 243 = .ok (.bipush 99, 2) := by decide +kernel
theorem dXL_law_245 : decode qL_law.2.1 245 = .ok (.invokevirtual 17, 3) := by decide +kernel
theorem dXL_law_248 : decode qL_law.2.1 248 = .ok (.ifCond .le 179, 3) := by decide +kernel
theorem dXL_law_251 : decode qL_law.2.1 251 = .ok (.aload_n 1, 1) := by decide +kernel
theorem dXL_law_252 : decode qL_law.2.1 252 = .ok (.bipush 63, 2) := by decide +kernel
theorem dXL_law_254 : decode qL_law.2.1 254 = .ok (.invokevirtual 17, 3) := by decide +kernel
theorem dXL_law_257 : decode qL_law.2.1 257 = .ok (.ifCond .le 170, 3) := by decide +kernel
theorem dXL_law_260 : decode qL_law.2.1 260 = .ok (.aload_n 1, 1) := by decide +kernel
theorem dXL_law_261 : decode qL_law.2.1 261 = .ok (.bipush 45, 2) := by decide +kernel
theorem dXL_law_263 : decode qL_law.2.1 263 = .ok (.invokevirtual 17, 3) := by decide +kernel
theorem dXL_law_266 : decode qL_law.2.1 266 = .ok (.ifCond .le 161, 3) := by decide +kernel
theorem dXL_law_269 : decode qL_law.2.1 269 = .ok (.aload_n 1, 1) := by decide +kernel
theorem dXL_law_270 : decode qL_law.2.1 270 = .ok (.bipush 50, 2) := by decide +kernel
theorem dXL_law_272 : decode qL_law.2.1 272 = .ok (.invokevirtual 17, 3) := by decide +kernel
theorem dXL_law_275 : decode qL_law.2.1 275 = .ok (.ifCond .le 152, 3) := by decide +kernel
theorem dXL_law_278 : decode qL_law.2.1 278 = .ok (.aload_n 1, 1) := by decide +kernel
theorem dXL_law_279 : decode qL_law.2.1 279 = .ok (.bipush 44, 2) := by decide +kernel
theorem dXL_law_281 : decode qL_law.2.1 281 = .ok (.invokevirtual 17, 3) := by decide +kernel
theorem dXL_law_284 : decode qL_law.2.1 284 = .ok (.ifCond .le 143, 3) := by decide +kernel
theorem dXL_law_287 : decode qL_law.2.1 287 = .ok (.aload_n 1, 1) := by decide +kernel
theorem dXL_law_288 : decode qL_law.2.1 288 = .ok (.bipush 97, 2) := by decide +kernel
theorem dXL_law_290 : decode qL_law.2.1 290 = .ok (.invokevirtual 17, 3) := by decide +kernel
theorem dXL_law_293 : decode qL_law.2.1 293 = .ok (.ifCond .le 134, 3) := by decide +kernel
theorem dXL_law_296 : decode qL_law.2.1 296 = .ok (.aload_n 1, 1) := by decide +kernel
theorem dXL_law_297 : decode qL_law.2.1 297 = .ok (.bipush 59, 2) := by decide +kernel
theorem dXL_law_299 : decode qL_law.2.1 299 = .ok (.invokevirtual 17, 3) := by decide +kernel
theorem dXL_law_302 : decode qL_law.2.1 302 = .ok (.ifCond .le 125, 3) := by decide +kernel
theorem dXL_law_305 : decode qL_law.2.1 305 = .ok (.aload_n 1, 1) := by decide +kernel
theorem dXL_law_306 : decode qL_law.2.1 306 = .ok (.bipush 97, 2) := by decide +kernel
theorem dXL_law_308 : decode qL_law.2.1 308 = .ok (.invokevirtual 17, 3) := by decide +kernel
theorem dXL_law_311 : decode qL_law.2.1 311 = .ok (.ifCond .le 116, 3) := by decide +kernel
theorem dXL_law_314 : decode qL_law.2.1 314 = .ok (.aload_n 1, 1) := by decide +kernel
theorem dXL_law_315 : decode qL_law.2.1 315 = .ok (.bipush 43, 2) := by decide +kernel
theorem dXL_law_317 : decode qL_law.2.1 317 = .ok (.invokevirtual 17, 3) := by decide +kernel
theorem dXL_law_320 : decode qL_law.2.1 320 = .ok (.ifCond .le 107, 3) := by decide +kernel
theorem dXL_law_323 : decode qL_law.2.1 323 = .ok (.aload_n 1, 1) := by decide +kernel
theorem dXL_law_324 : decode qL_law.2.1 324 = .ok (.bipush 98, 2) := by decide +kernel
theorem dXL_law_326 : decode qL_law.2.1 326 = .ok (.invokevirtual 17, 3) := by decide +kernel
theorem dXL_law_329 : decode qL_law.2.1 329 = .ok (.ifCond .le 98, 3) := by decide +kernel
theorem dXL_law_332 : decode qL_law.2.1 332 = .ok (.aload_n 1, 1) := by decide +kernel
theorem dXL_law_333 : decode qL_law.2.1 333 = .ok (.bipush 42, 2) := by decide +kernel
theorem dXL_law_335 : decode qL_law.2.1 335 = .ok (.invokevirtual 17, 3) := by decide +kernel
theorem dXL_law_338 : decode qL_law.2.1 338 = .ok (.ifCond .le 89, 3) := by decide +kernel
theorem dXL_law_341 : decode qL_law.2.1 341 = .ok (.aload_n 1, 1) := by decide +kernel
theorem dXL_law_342 : decode qL_law.2.1 342 = .ok (.iload 6, 2) := by decide +kernel
theorem dXL_law_344 : decode qL_law.2.1 344 = .ok (.invokestatic 21, 3) := by decide +kernel
theorem dXL_law_347 : decode qL_law.2.1 347 = .ok (.ifCond .eq 80, 3) := by decide +kernel
theorem dXL_law_350 : decode qL_law.2.1 350 = .ok (.aload_n 1, 1) := by decide +kernel
theorem dXL_law_351 : decode qL_law.2.1 351 = .ok (.iload 8, 2) := by decide +kernel
theorem dXL_law_353 : decode qL_law.2.1 353 = .ok (.ifCond .ne 8, 3) := by decide +kernel
theorem dXL_law_356 : decode qL_law.2.1 356 = .ok (.bipush 61, 2) := by decide +kernel
theorem dXL_law_358 : decode qL_law.2.1 358 = .ok (.goto 27, 3) := by decide +kernel
theorem dXL_law_361 : decode qL_law.2.1 361 = .ok (.iload 8, 2) := by decide +kernel
theorem dXL_law_363 : decode qL_law.2.1 363 = .ok (.iconst 1, 1) := by decide +kernel
theorem dXL_law_364 : decode qL_law.2.1 364 = .ok (.if_icmp .ne 8, 3) := by decide +kernel
theorem dXL_law_367 : decode qL_law.2.1 367 = .ok (.bipush 60, 2) := by decide +kernel
theorem dXL_law_369 : decode qL_law.2.1 369 = .ok (.goto 16, 3) := by decide +kernel
theorem dXL_law_372 : decode qL_law.2.1 372 = .ok (.iload 8, 2) := by decide +kernel
theorem dXL_law_374 : decode qL_law.2.1 374 = .ok (.iconst 2, 1) := by decide +kernel
theorem dXL_law_375 : decode qL_law.2.1 375 = .ok (.if_icmp .ne 8, 3) := by decide +kernel
theorem dXL_law_378 : decode qL_law.2.1 378 = .ok (.bipush 62, 2) := by decide +kernel
theorem dXL_law_380 : decode qL_law.2.1 380 = .ok (.goto 5, 3) := by decide +kernel
theorem dXL_law_383 : decode qL_law.2.1 383 = .ok (.bipush 35, 2) := by decide +kernel
theorem dXL_law_385 : decode qL_law.2.1 385 = .ok (.invokevirtual 17, 3) := by decide +kernel
theorem dXL_law_388 : decode qL_law.2.1 388 = .ok (.ifCond .le 39, 3) := by decide +kernel
theorem dXL_law_391 : decode qL_law.2.1 391 = .ok (.aload_n 1, 1) := by decide +kernel
theorem dXL_law_392 : decode qL_law.2.1 392 = .ok (.bipush 99, 2) := by decide +kernel
theorem dXL_law_394 : decode qL_law.2.1 394 = .ok (.invokevirtual 17, 3) := by decide +kernel
theorem dXL_law_397 : decode qL_law.2.1 397 = .ok (.ifCond .le 30, 3) := by decide +kernel
theorem dXL_law_400 : decode qL_law.2.1 400 = .ok (.aload_n 1, 1) := by decide +kernel
theorem dXL_law_401 : decode qL_law.2.1 401 = .ok (.bipush 43, 2) := by decide +kernel
theorem dXL_law_403 : decode qL_law.2.1 403 = .ok (.invokevirtual 17, 3) := by decide +kernel
theorem dXL_law_406 : decode qL_law.2.1 406 = .ok (.ifCond .le 21, 3) := by decide +kernel
theorem dXL_law_409 : decode qL_law.2.1 409 = .ok (.aload_n 1, 1) := by decide +kernel
theorem dXL_law_410 : decode qL_law.2.1 410 = .ok (.iload 7, 2) := by decide +kernel
theorem dXL_law_412 : decode qL_law.2.1 412 = .ok (.invokestatic 21, 3) := by decide +kernel
theorem dXL_law_415 : decode qL_law.2.1 415 = .ok (.ifCond .eq 12, 3) := by decide +kernel
theorem dXL_law_418 : decode qL_law.2.1 418 = .ok (.aload_n 1, 1) := by decide +kernel
theorem dXL_law_419 : decode qL_law.2.1 419 = .ok (.iconst 0, 1) := by decide +kernel
theorem dXL_law_420 : decode qL_law.2.1 420 = .ok (.invokevirtual 25, 3) := by decide +kernel
theorem dXL_law_423 : decode qL_law.2.1 423 = .ok (.iconst 4, 1) := by decide +kernel
theorem dXL_law_424 : decode qL_law.2.1 424 = .ok (.if_icmp .eq 5, 3) := by decide +kernel
theorem dXL_law_427 : decode qL_law.2.1 427 = .ok (.iconst 0, 1) := by decide +kernel
theorem dXL_law_428 : decode qL_law.2.1 428 = .ok (.ireturn, 1) := by decide +kernel
theorem dXL_law_429 : decode qL_law.2.1 429 = .ok (.aload_n 1, 1) := by decide +kernel
theorem dXL_law_430 : decode qL_law.2.1 430 = .ok (.bipush 97, 2) := by decide +kernel
theorem dXL_law_432 : decode qL_law.2.1 432 = .ok (.invokevirtual 17, 3) := by decide +kernel
theorem dXL_law_435 : decode qL_law.2.1 435 = .ok (.ifCond .le 48, 3) := by decide +kernel
theorem dXL_law_438 : decode qL_law.2.1 438 = .ok (.aload_n 1, 1) := by decide +kernel
theorem dXL_law_439 : decode qL_law.2.1 439 = .ok (.bipush 42, 2) := by decide +kernel
theorem dXL_law_441 : decode qL_law.2.1 441 = .ok (.invokevirtual 17, 3) := by decide +kernel
theorem dXL_law_444 : decode qL_law.2.1 444 = .ok (.ifCond .le 39, 3) := by decide +kernel
theorem dXL_law_447 : decode qL_law.2.1 447 = .ok (.aload_n 1, 1) := by decide +kernel
theorem dXL_law_448 : decode qL_law.2.1 448 = .ok (.bipush 98, 2) := by decide +kernel
theorem dXL_law_450 : decode qL_law.2.1 450 = .ok (.invokevirtual 17, 3) := by decide +kernel
theorem dXL_law_453 : decode qL_law.2.1 453 = .ok (.ifCond .le 30, 3) := by decide +kernel
theorem dXL_law_456 : decode qL_law.2.1 456 = .ok (.aload_n 1, 1) := by decide +kernel
theorem dXL_law_457 : decode qL_law.2.1 457 = .ok (.bipush 45, 2) := by decide +kernel
theorem dXL_law_459 : decode qL_law.2.1 459 = .ok (.invokevirtual 17, 3) := by decide +kernel
theorem dXL_law_462 : decode qL_law.2.1 462 = .ok (.ifCond .le 21, 3) := by decide +kernel
theorem dXL_law_465 : decode qL_law.2.1 465 = .ok (.aload_n 1, 1) := by decide +kernel
theorem dXL_law_466 : decode qL_law.2.1 466 = .ok (.bipush 99, 2) := by decide +kernel
theorem dXL_law_468 : decode qL_law.2.1 468 = .ok (.invokevirtual 17, 3) := by decide +kernel
theorem dXL_law_471 : decode qL_law.2.1 471 = .ok (.ifCond .le 12, 3) := by decide +kernel
theorem dXL_law_474 : decode qL_law.2.1 474 = .ok (.aload_n 1, 1) := by decide +kernel
theorem dXL_law_475 : decode qL_law.2.1 475 = .ok (.iconst 0, 1) := by decide +kernel
theorem dXL_law_476 : decode qL_law.2.1 476 = .ok (.invokevirtual 28, 3) := by decide +kernel
theorem dXL_law_479 : decode qL_law.2.1 479 = .ok (.iconst 1, 1) := by decide +kernel
theorem dXL_law_480 : decode qL_law.2.1 480 = .ok (.if_icmp .eq 5, 3) := by decide +kernel
theorem dXL_law_483 : decode qL_law.2.1 483 = .ok (.iconst 0, 1) := by decide +kernel
theorem dXL_law_484 : decode qL_law.2.1 484 = .ok (.ireturn, 1) := by decide +kernel
theorem dXL_law_485 : decode qL_law.2.1 485 = .ok (.sipush 400, 3) := by decide +kernel
theorem dXL_law_488 : decode qL_law.2.1 488 = .ok (.newarray .int, 2) := by decide +kernel
theorem dXL_law_490 : decode qL_law.2.1 490 = .ok (.astore 9, 2) := by decide +kernel
theorem dXL_law_492 : decode qL_law.2.1 492 = .ok (.sipush 400, 3) := by decide +kernel
theorem dXL_law_495 : decode qL_law.2.1 495 = .ok (.newarray .int, 2) := by decide +kernel
theorem dXL_law_497 : decode qL_law.2.1 497 = .ok (.astore 10, 2) := by decide +kernel
theorem dXL_law_499 : decode qL_law.2.1 499 = .ok (.sipush 400, 3) := by decide +kernel
theorem dXL_law_502 : decode qL_law.2.1 502 = .ok (.newarray .int, 2) := by decide +kernel
theorem dXL_law_504 : decode qL_law.2.1 504 = .ok (.astore 11, 2) := by decide +kernel
theorem dXL_law_506 : decode qL_law.2.1 506 = .ok (.iconst 0, 1) := by decide +kernel
theorem dXL_law_507 : decode qL_law.2.1 507 = .ok (.istore 12, 2) := by decide +kernel
theorem dXL_law_509 : decode qL_law.2.1 509 = .ok (.iconst 0, 1) := by decide +kernel
theorem dXL_law_510 : decode qL_law.2.1 510 = .ok (.istore 13, 2) := by decide +kernel
theorem dXL_law_512 : decode qL_law.2.1 512 = .ok (.iload_n 3, 1) := by decide +kernel
theorem dXL_law_513 : decode qL_law.2.1 513 = .ok (.istore 14, 2) := by decide +kernel
theorem dXL_law_515 : decode qL_law.2.1 515 = .ok (.iload 14, 2) := by decide +kernel
theorem dXL_law_517 : decode qL_law.2.1 517 = .ok (.iload 4, 2) := by decide +kernel
theorem dXL_law_519 : decode qL_law.2.1 519 = .ok (.if_icmp .gt 148, 3) := by decide +kernel
theorem dXL_law_522 : decode qL_law.2.1 522 = .ok (.iconst 0, 1) := by decide +kernel
theorem dXL_law_523 : decode qL_law.2.1 523 = .ok (.istore 15, 2) := by decide +kernel
theorem dXL_law_525 : decode qL_law.2.1 525 = .ok (.iload 15, 2) := by decide +kernel
theorem dXL_law_527 : decode qL_law.2.1 527 = .ok (.iconst 3, 1) := by decide +kernel
theorem dXL_law_528 : decode qL_law.2.1 528 = .ok (.if_icmp .ge 133, 3) := by decide +kernel
theorem dXL_law_531 : decode qL_law.2.1 531 = .ok (.bipush (-2), 2) := by decide +kernel
theorem dXL_law_533 : decode qL_law.2.1 533 = .ok (.istore 16, 2) := by decide +kernel
theorem dXL_law_535 : decode qL_law.2.1 535 = .ok (.iload 16, 2) := by decide +kernel
theorem dXL_law_537 : decode qL_law.2.1 537 = .ok (.iload 14, 2) := by decide +kernel
theorem dXL_law_539 : decode qL_law.2.1 539 = .ok (.if_icmp .gt 116, 3) := by decide +kernel
theorem dXL_law_542 : decode qL_law.2.1 542 = .ok (.iload 14, 2) := by decide +kernel
theorem dXL_law_544 : decode qL_law.2.1 544 = .ok (.aload 5, 2) := by decide +kernel
theorem dXL_law_546 : decode qL_law.2.1 546 = .ok (.iload 15, 2) := by decide +kernel
theorem dXL_law_548 : decode qL_law.2.1 548 = .ok (.iaload, 1) := by decide +kernel
theorem dXL_law_549 : decode qL_law.2.1 549 = .ok (.iload 6, 2) := by decide +kernel
theorem dXL_law_551 : decode qL_law.2.1 551 = .ok (.imul, 1) := by decide +kernel
theorem dXL_law_552 : decode qL_law.2.1 552 = .ok (.iadd, 1) := by decide +kernel
theorem dXL_law_553 : decode qL_law.2.1 553 = .ok (.istore 17, 2) := by decide +kernel
theorem dXL_law_555 : decode qL_law.2.1 555 = .ok (.iload 16, 2) := by decide +kernel
theorem dXL_law_557 : decode qL_law.2.1 557 = .ok (.iload 7, 2) := by decide +kernel
theorem dXL_law_559 : decode qL_law.2.1 559 = .ok (.iadd, 1) := by decide +kernel
theorem dXL_law_560 : decode qL_law.2.1 560 = .ok (.istore 18, 2) := by decide +kernel
theorem dXL_law_562 : decode qL_law.2.1 562 = .ok (.iinc 13 1, 3) := by decide +kernel
theorem dXL_law_565 : decode qL_law.2.1 565 = .ok (.iload 8, 2) := by decide +kernel
theorem dXL_law_567 : decode qL_law.2.1 567 = .ok (.ifCond .ne 13, 3) := by decide +kernel
theorem dXL_law_570 : decode qL_law.2.1 570 = .ok (.iload 17, 2) := by decide +kernel
theorem dXL_law_572 : decode qL_law.2.1 572 = .ok (.iload 18, 2) := by decide +kernel
theorem dXL_law_574 : decode qL_law.2.1 574 = .ok (.if_icmp .ne 75, 3) := by decide +kernel
theorem dXL_law_577 : decode qL_law.2.1 577 = .ok (.goto 45, 3) := by decide +kernel
theorem dXL_law_580 : decode qL_law.2.1 580 = .ok (.iload 8, 2) := by decide +kernel
theorem dXL_law_582 : decode qL_law.2.1 582 = .ok (.iconst 1, 1) := by decide +kernel
theorem dXL_law_583 : decode qL_law.2.1 583 = .ok (.if_icmp .ne 13, 3) := by decide +kernel
theorem dXL_law_586 : decode qL_law.2.1 586 = .ok (.iload 17, 2) := by decide +kernel
theorem dXL_law_588 : decode qL_law.2.1 588 = .ok (.iload 18, 2) := by decide +kernel
theorem dXL_law_590 : decode qL_law.2.1 590 = .ok (.if_icmp .ge 59, 3) := by decide +kernel
theorem dXL_law_593 : decode qL_law.2.1 593 = .ok (.goto 29, 3) := by decide +kernel
theorem dXL_law_596 : decode qL_law.2.1 596 = .ok (.iload 8, 2) := by decide +kernel
theorem dXL_law_598 : decode qL_law.2.1 598 = .ok (.iconst 2, 1) := by decide +kernel
theorem dXL_law_599 : decode qL_law.2.1 599 = .ok (.if_icmp .ne 13, 3) := by decide +kernel
theorem dXL_law_602 : decode qL_law.2.1 602 = .ok (.iload 17, 2) := by decide +kernel
theorem dXL_law_604 : decode qL_law.2.1 604 = .ok (.iload 18, 2) := by decide +kernel
theorem dXL_law_606 : decode qL_law.2.1 606 = .ok (.if_icmp .le 43, 3) := by decide +kernel
theorem dXL_law_609 : decode qL_law.2.1 609 = .ok (.goto 13, 3) := by decide +kernel
theorem dXL_law_612 : decode qL_law.2.1 612 = .ok (.iload 17, 2) := by decide +kernel
theorem dXL_law_614 : decode qL_law.2.1 614 = .ok (.iload 18, 2) := by decide +kernel
theorem dXL_law_616 : decode qL_law.2.1 616 = .ok (.if_icmp .ne 6, 3) := by decide +kernel
theorem dXL_law_619 : decode qL_law.2.1 619 = .ok (.goto 30, 3) := by decide +kernel
theorem dXL_law_622 : decode qL_law.2.1 622 = .ok (.aload 9, 2) := by decide +kernel
theorem dXL_law_624 : decode qL_law.2.1 624 = .ok (.iload 12, 2) := by decide +kernel
theorem dXL_law_626 : decode qL_law.2.1 626 = .ok (.iload 14, 2) := by decide +kernel
theorem dXL_law_628 : decode qL_law.2.1 628 = .ok (.iastore, 1) := by decide +kernel
theorem dXL_law_629 : decode qL_law.2.1 629 = .ok (.aload 10, 2) := by decide +kernel
theorem dXL_law_631 : decode qL_law.2.1 631 = .ok (.iload 12, 2) := by decide +kernel
theorem dXL_law_633 : decode qL_law.2.1 633 = .ok (.aload 5, 2) := by decide +kernel
theorem dXL_law_635 : decode qL_law.2.1 635 = .ok (.iload 15, 2) := by decide +kernel
theorem dXL_law_637 : decode qL_law.2.1 637 = .ok (.iaload, 1) := by decide +kernel
theorem dXL_law_638 : decode qL_law.2.1 638 = .ok (.iastore, 1) := by decide +kernel
theorem dXL_law_639 : decode qL_law.2.1 639 = .ok (.aload 11, 2) := by decide +kernel
theorem dXL_law_641 : decode qL_law.2.1 641 = .ok (.iload 12, 2) := by decide +kernel
theorem dXL_law_643 : decode qL_law.2.1 643 = .ok (.iinc 12 1, 3) := by decide +kernel
theorem dXL_law_646 : decode qL_law.2.1 646 = .ok (.iload 16, 2) := by decide +kernel
theorem dXL_law_648 : decode qL_law.2.1 648 = .ok (.iastore, 1) := by decide +kernel
theorem dXL_law_649 : decode qL_law.2.1 649 = .ok (.iinc 16 1, 3) := by decide +kernel
theorem dXL_law_652 : decode qL_law.2.1 652 = .ok (.goto (-117), 3) := by decide +kernel
theorem dXL_law_655 : decode qL_law.2.1 655 = .ok (.iinc 15 1, 3) := by decide +kernel
theorem dXL_law_658 : decode qL_law.2.1 658 = .ok (.goto (-133), 3) := by decide +kernel
theorem dXL_law_661 : decode qL_law.2.1 661 = .ok (.iinc 14 1, 3) := by decide +kernel
theorem dXL_law_664 : decode qL_law.2.1 664 = .ok (.goto (-149), 3) := by decide +kernel
theorem dXL_law_667 : decode qL_law.2.1 667 = .ok (.iconst 0, 1) := by decide +kernel
theorem dXL_law_668 : decode qL_law.2.1 668 = .ok (.istore 14, 2) := by decide +kernel
theorem dXL_law_670 : decode qL_law.2.1 670 = .ok (.iload 14, 2) := by decide +kernel
theorem dXL_law_672 : decode qL_law.2.1 672 = .ok (.bipush 6, 2) := by decide +kernel
theorem dXL_law_674 : decode qL_law.2.1 674 = .ok (.if_icmp .ge 702, 3) := by decide +kernel
theorem dXL_law_677 : decode qL_law.2.1 677 = .ok (.iload 14, 2) := by decide +kernel
theorem dXL_law_679 : decode qL_law.2.1 679 = .ok (.iconst 3, 1) := by decide +kernel
theorem dXL_law_680 : decode qL_law.2.1 680 = .ok (.iand, 1) := by decide +kernel
theorem dXL_law_681 : decode qL_law.2.1 681 = .ok (.istore 15, 2) := by decide +kernel
theorem dXL_law_683 : decode qL_law.2.1 683 = .ok (.aload_n 1, 1) := by decide +kernel
theorem dXL_law_684 : decode qL_law.2.1 684 = .ok (.iload 15, 2) := by decide +kernel
theorem dXL_law_686 : decode qL_law.2.1 686 = .ok (.iconst 0, 1) := by decide +kernel
theorem dXL_law_687 : decode qL_law.2.1 687 = .ok (.iload 14, 2) := by decide +kernel
theorem dXL_law_689 : decode qL_law.2.1 689 = .ok (.invokevirtual 31, 3) := by decide +kernel
theorem dXL_law_692 : decode qL_law.2.1 692 = .ok (.iconst 1, 1) := by decide +kernel
theorem dXL_law_693 : decode qL_law.2.1 693 = .ok (.if_icmp .ne 26, 3) := by decide +kernel
theorem dXL_law_696 : decode qL_law.2.1 696 = .ok (.aload_n 1, 1) := by decide +kernel
theorem dXL_law_697 : decode qL_law.2.1 697 = .ok (.iload 15, 2) := by decide +kernel
theorem dXL_law_699 : decode qL_law.2.1 699 = .ok (.iconst 0, 1) := by decide +kernel
theorem dXL_law_700 : decode qL_law.2.1 700 = .ok (.invokevirtual 35, 3) := by decide +kernel
theorem dXL_law_703 : decode qL_law.2.1 703 = .ok (.iconst 1, 1) := by decide +kernel
theorem dXL_law_704 : decode qL_law.2.1 704 = .ok (.if_icmp .ne 15, 3) := by decide +kernel
theorem dXL_law_707 : decode qL_law.2.1 707 = .ok (.aload_n 1, 1) := by decide +kernel
theorem dXL_law_708 : decode qL_law.2.1 708 = .ok (.iload 15, 2) := by decide +kernel
theorem dXL_law_710 : decode qL_law.2.1 710 = .ok (.invokevirtual 39, 3) := by decide +kernel
theorem dXL_law_713 : decode qL_law.2.1 713 = .ok (.sipush (-2002), 3) := by decide +kernel
theorem dXL_law_716 : decode qL_law.2.1 716 = .ok (.if_icmp .eq 5, 3) := by decide +kernel
theorem dXL_law_719 : decode qL_law.2.1 719 = .ok (.iconst 0, 1) := by decide +kernel
theorem dXL_law_720 : decode qL_law.2.1 720 = .ok (.ireturn, 1) := by decide +kernel
theorem dXL_law_721 : decode qL_law.2.1 721 = .ok (.iconst 0, 1) := by decide +kernel
theorem dXL_law_722 : decode qL_law.2.1 722 = .ok (.istore 16, 2) := by decide +kernel
theorem dXL_law_724 : decode qL_law.2.1 724 = .ok (.iconst 0, 1) := by decide +kernel
theorem dXL_law_725 : decode qL_law.2.1 725 = .ok (.istore 17, 2) := by decide +kernel
theorem dXL_law_727 : decode qL_law.2.1 727 = .ok (.iconst 0, 1) := by decide +kernel
theorem dXL_law_728 : decode qL_law.2.1 728 = .ok (.istore 18, 2) := by decide +kernel
theorem dXL_law_730 : decode qL_law.2.1 730 = .ok (.iload 18, 2) := by decide +kernel
theorem dXL_law_732 : decode qL_law.2.1 732 = .ok (.bipush 60, 2) := by decide +kernel
theorem dXL_law_734 : decode qL_law.2.1 734 = .ok (.if_icmp .ge 131, 3) := by decide +kernel
theorem dXL_law_737 : decode qL_law.2.1 737 = .ok (.aload_n 1, 1) := by decide +kernel
theorem dXL_law_738 : decode qL_law.2.1 738 = .ok (.iload 15, 2) := by decide +kernel
theorem dXL_law_740 : decode qL_law.2.1 740 = .ok (.iconst 0, 1) := by decide +kernel
theorem dXL_law_741 : decode qL_law.2.1 741 = .ok (.invokevirtual 35, 3) := by decide +kernel
theorem dXL_law_744 : decode qL_law.2.1 744 = .ok (.iconst 1, 1) := by decide +kernel
theorem dXL_law_745 : decode qL_law.2.1 745 = .ok (.if_icmp .ne 120, 3) := by decide +kernel
theorem dXL_law_748 : decode qL_law.2.1 748 = .ok (.iconst 1, 1) := by decide +kernel
theorem dXL_law_749 : decode qL_law.2.1 749 = .ok (.aload_n 0, 1) := by decide +kernel
theorem dXL_law_750 : decode qL_law.2.1 750 = .ok (.iconst 1, 1) := by decide +kernel
theorem dXL_law_751 : decode qL_law.2.1 751 = .ok (.iload 18, 2) := by decide +kernel
theorem dXL_law_753 : decode qL_law.2.1 753 = .ok (.iadd, 1) := by decide +kernel
theorem dXL_law_754 : decode qL_law.2.1 754 = .ok (.invokestatic 11, 3) := by decide +kernel
theorem dXL_law_757 : decode qL_law.2.1 757 = .ok (.iconst 1, 1) := by decide +kernel
theorem dXL_law_758 : decode qL_law.2.1 758 = .ok (.iushr, 1) := by decide +kernel
theorem dXL_law_759 : decode qL_law.2.1 759 = .ok (.bipush 90, 2) := by decide +kernel
theorem dXL_law_761 : decode qL_law.2.1 761 = .ok (.irem, 1) := by decide +kernel
theorem dXL_law_762 : decode qL_law.2.1 762 = .ok (.iadd, 1) := by decide +kernel
theorem dXL_law_763 : decode qL_law.2.1 763 = .ok (.istore 19, 2) := by decide +kernel
theorem dXL_law_765 : decode qL_law.2.1 765 = .ok (.aload_n 1, 1) := by decide +kernel
theorem dXL_law_766 : decode qL_law.2.1 766 = .ok (.iload 15, 2) := by decide +kernel
theorem dXL_law_768 : decode qL_law.2.1 768 = .ok (.iconst 2, 1) := by decide +kernel
theorem dXL_law_769 : decode qL_law.2.1 769 = .ok (.invokevirtual 35, 3) := by decide +kernel
theorem dXL_law_772 : decode qL_law.2.1 772 = .ok (.istore 20, 2) := by decide +kernel
theorem dXL_law_774 : decode qL_law.2.1 774 = .ok (.aload_n 1, 1) := by decide +kernel
theorem dXL_law_775 : decode qL_law.2.1 775 = .ok (.iload 15, 2) := by decide +kernel
theorem dXL_law_777 : decode qL_law.2.1 777 = .ok (.iload 19, 2) := by decide +kernel
theorem dXL_law_779 : decode qL_law.2.1 779 = .ok (.invokevirtual 42, 3) := by decide +kernel
theorem dXL_law_782 : decode qL_law.2.1 782 = .ok (.istore 21, 2) := by decide +kernel
theorem dXL_law_784 : decode qL_law.2.1 784 = .ok (.iload 21, 2) := by decide +kernel
theorem dXL_law_786 : decode qL_law.2.1 786 = .ok (.iconst 1, 1) := by decide +kernel
theorem dXL_law_787 : decode qL_law.2.1 787 = .ok (.if_icmp .lt 45, 3) := by decide +kernel
theorem dXL_law_790 : decode qL_law.2.1 790 = .ok (.iload 21, 2) := by decide +kernel
theorem dXL_law_792 : decode qL_law.2.1 792 = .ok (.iconst 3, 1) := by decide +kernel
theorem dXL_law_793 : decode qL_law.2.1 793 = .ok (.if_icmp .gt 39, 3) := by decide +kernel
theorem dXL_law_796 : decode qL_law.2.1 796 = .ok (.aload_n 1, 1) := by decide +kernel
theorem dXL_law_797 : decode qL_law.2.1 797 = .ok (.iload 15, 2) := by decide +kernel
theorem dXL_law_799 : decode qL_law.2.1 799 = .ok (.iconst 2, 1) := by decide +kernel
theorem dXL_law_800 : decode qL_law.2.1 800 = .ok (.invokevirtual 35, 3) := by decide +kernel
theorem dXL_law_803 : decode qL_law.2.1 803 = .ok (.iload 20, 2) := by decide +kernel
theorem dXL_law_805 : decode qL_law.2.1 805 = .ok (.isub, 1) := by decide +kernel
theorem dXL_law_806 : decode qL_law.2.1 806 = .ok (.iload 19, 2) := by decide +kernel
theorem dXL_law_808 : decode qL_law.2.1 808 = .ok (.if_icmp .gt 24, 3) := by decide +kernel
theorem dXL_law_811 : decode qL_law.2.1 811 = .ok (.iload 21, 2) := by decide +kernel
theorem dXL_law_813 : decode qL_law.2.1 813 = .ok (.iconst 2, 1) := by decide +kernel
theorem dXL_law_814 : decode qL_law.2.1 814 = .ok (.if_icmp .ne 20, 3) := by decide +kernel
theorem dXL_law_817 : decode qL_law.2.1 817 = .ok (.aload_n 1, 1) := by decide +kernel
theorem dXL_law_818 : decode qL_law.2.1 818 = .ok (.iload 15, 2) := by decide +kernel
theorem dXL_law_820 : decode qL_law.2.1 820 = .ok (.iconst 2, 1) := by decide +kernel
theorem dXL_law_821 : decode qL_law.2.1 821 = .ok (.invokevirtual 35, 3) := by decide +kernel
theorem dXL_law_824 : decode qL_law.2.1 824 = .ok (.iload 20, 2) := by decide +kernel
theorem dXL_law_826 : decode qL_law.2.1 826 = .ok (.isub, 1) := by decide +kernel
theorem dXL_law_827 : decode qL_law.2.1 827 = .ok (.iload 19, 2) := by decide +kernel
theorem dXL_law_829 : decode qL_law.2.1 829 = .ok (.if_icmp .eq 5, 3) := by decide +kernel
theorem dXL_law_832 : decode qL_law.2.1 832 = .ok (.iconst 0, 1) := by decide +kernel
theorem dXL_law_833 : decode qL_law.2.1 833 = .ok (.ireturn, 1) := by decide +kernel
theorem dXL_law_834 : decode qL_law.2.1 834 = .ok (.iload 16, 2) := by decide +kernel
theorem dXL_law_836 : decode qL_law.2.1 836 = .ok (.iload 21, 2) := by decide +kernel
theorem dXL_law_838 : decode qL_law.2.1 838 = .ok (.iconst 1, 1) := by decide +kernel
theorem dXL_law_839 : decode qL_law.2.1 839 = .ok (.if_icmp .ne 7, 3) := by decide +kernel
theorem dXL_law_842 : decode qL_law.2.1 842 = .ok (.iconst 1, 1) := by decide +kernel
theorem dXL_law_843 : decode qL_law.2.1 843 = .ok (.goto 4, 3) := by decide +kernel
theorem dXL_law_846 : decode qL_law.2.1 846 = .ok (.iconst 0, 1) := by decide +kernel
theorem dXL_law_847 : decode qL_law.2.1 847 = .ok (.iadd, 1) := by decide +kernel
theorem dXL_law_848 : decode qL_law.2.1 848 = .ok (.istore 16, 2) := by decide +kernel
theorem dXL_law_850 : decode qL_law.2.1 850 = .ok (.aload_n 1, 1) := by decide +kernel
theorem dXL_law_851 : decode qL_law.2.1 851 = .ok (.iload 15, 2) := by decide +kernel
theorem dXL_law_853 : decode qL_law.2.1 853 = .ok (.iconst 2, 1) := by decide +kernel
theorem dXL_law_854 : decode qL_law.2.1 854 = .ok (.invokevirtual 35, 3) := by decide +kernel
theorem dXL_law_857 : decode qL_law.2.1 857 = .ok (.istore 17, 2) := by decide +kernel
theorem dXL_law_859 : decode qL_law.2.1 859 = .ok (.iinc 18 1, 3) := by decide +kernel
theorem dXL_law_862 : decode qL_law.2.1 862 = .ok (.goto (-132), 3) := by decide +kernel
theorem dXL_law_865 : decode qL_law.2.1 865 = .ok (.aload_n 1, 1) := by decide +kernel
theorem dXL_law_866 : decode qL_law.2.1 866 = .ok (.iload 15, 2) := by decide +kernel
theorem dXL_law_868 : decode qL_law.2.1 868 = .ok (.iconst 0, 1) := by decide +kernel
theorem dXL_law_869 : decode qL_law.2.1 869 = .ok (.invokevirtual 35, 3) := by decide +kernel
theorem dXL_law_872 : decode qL_law.2.1 872 = .ok (.iconst 1, 1) := by decide +kernel
theorem dXL_law_873 : decode qL_law.2.1 873 = .ok (.if_icmp .ne 17, 3) := by decide +kernel
theorem dXL_law_876 : decode qL_law.2.1 876 = .ok (.iload 16, 2) := by decide +kernel
theorem dXL_law_878 : decode qL_law.2.1 878 = .ok (.aload_n 1, 1) := by decide +kernel
theorem dXL_law_879 : decode qL_law.2.1 879 = .ok (.iload 15, 2) := by decide +kernel
theorem dXL_law_881 : decode qL_law.2.1 881 = .ok (.sipush 2000, 3) := by decide +kernel
theorem dXL_law_884 : decode qL_law.2.1 884 = .ok (.invokevirtual 45, 3) := by decide +kernel
theorem dXL_law_887 : decode qL_law.2.1 887 = .ok (.iadd, 1) := by decide +kernel
theorem dXL_law_888 : decode qL_law.2.1 888 = .ok (.istore 16, 2) := by decide +kernel
theorem dXL_law_890 : decode qL_law.2.1 890 = .ok (.aload_n 1, 1) := by decide +kernel
theorem dXL_law_891 : decode qL_law.2.1 891 = .ok (.iload 15, 2) := by decide +kernel
theorem dXL_law_893 : decode qL_law.2.1 893 = .ok (.iconst 0, 1) := by decide +kernel
theorem dXL_law_894 : decode qL_law.2.1 894 = .ok (.invokevirtual 35, 3) := by decide +kernel
theorem dXL_law_897 : decode qL_law.2.1 897 = .ok (.iconst 1, 1) := by decide +kernel
theorem dXL_law_898 : decode qL_law.2.1 898 = .ok (.if_icmp .eq 35, 3) := by decide +kernel
theorem dXL_law_901 : decode qL_law.2.1 901 = .ok (.aload_n 1, 1) := by decide +kernel
theorem dXL_law_902 : decode qL_law.2.1 902 = .ok (.iload 15, 2) := by decide +kernel
theorem dXL_law_904 : decode qL_law.2.1 904 = .ok (.iconst 1, 1) := by decide +kernel
theorem dXL_law_905 : decode qL_law.2.1 905 = .ok (.invokevirtual 35, 3) := by decide +kernel
theorem dXL_law_908 : decode qL_law.2.1 908 = .ok (.iload 16, 2) := by decide +kernel
theorem dXL_law_910 : decode qL_law.2.1 910 = .ok (.if_icmp .ne 23, 3) := by decide +kernel
theorem dXL_law_913 : decode qL_law.2.1 913 = .ok (.iload 16, 2) := by decide +kernel
theorem dXL_law_915 : decode qL_law.2.1 915 = .ok (.iload 12, 2) := by decide +kernel
theorem dXL_law_917 : decode qL_law.2.1 917 = .ok (.if_icmp .ne 16, 3) := by decide +kernel
theorem dXL_law_920 : decode qL_law.2.1 920 = .ok (.aload_n 1, 1) := by decide +kernel
theorem dXL_law_921 : decode qL_law.2.1 921 = .ok (.iload 15, 2) := by decide +kernel
theorem dXL_law_923 : decode qL_law.2.1 923 = .ok (.iconst 5, 1) := by decide +kernel
theorem dXL_law_924 : decode qL_law.2.1 924 = .ok (.invokevirtual 42, 3) := by decide +kernel
theorem dXL_law_927 : decode qL_law.2.1 927 = .ok (.sipush (-2003), 3) := by decide +kernel
theorem dXL_law_930 : decode qL_law.2.1 930 = .ok (.if_icmp .eq 5, 3) := by decide +kernel
theorem dXL_law_933 : decode qL_law.2.1 933 = .ok (.iconst 0, 1) := by decide +kernel
theorem dXL_law_934 : decode qL_law.2.1 934 = .ok (.ireturn, 1) := by decide +kernel
theorem dXL_law_935 : decode qL_law.2.1 935 = .ok (.sipush 400, 3) := by decide +kernel
theorem dXL_law_938 : decode qL_law.2.1 938 = .ok (.newarray .boolean, 2) := by decide +kernel
theorem dXL_law_940 : decode qL_law.2.1 940 = .ok (.astore 18, 2) := by decide +kernel
theorem dXL_law_942 : decode qL_law.2.1 942 = .ok (.iconst 0, 1) := by decide +kernel
theorem dXL_law_943 : decode qL_law.2.1 943 = .ok (.istore 19, 2) := by decide +kernel
theorem dXL_law_945 : decode qL_law.2.1 945 = .ok (.iload 19, 2) := by decide +kernel
theorem dXL_law_947 : decode qL_law.2.1 947 = .ok (.iload 16, 2) := by decide +kernel
theorem dXL_law_949 : decode qL_law.2.1 949 = .ok (.if_icmp .ge 185, 3) := by decide +kernel
theorem dXL_law_952 : decode qL_law.2.1 952 = .ok (.iconst (-1), 1) := by decide +kernel
theorem dXL_law_953 : decode qL_law.2.1 953 = .ok (.istore 20, 2) := by decide +kernel
theorem dXL_law_955 : decode qL_law.2.1 955 = .ok (.iconst 0, 1) := by decide +kernel
theorem dXL_law_956 : decode qL_law.2.1 956 = .ok (.istore 21, 2) := by decide +kernel
theorem dXL_law_958 : decode qL_law.2.1 958 = .ok (.iload 21, 2) := by decide +kernel
theorem dXL_law_960 : decode qL_law.2.1 960 = .ok (.iload 12, 2) := by decide +kernel
theorem dXL_law_962 : decode qL_law.2.1 962 = .ok (.if_icmp .ge 77, 3) := by decide +kernel
theorem dXL_law_965 : decode qL_law.2.1 965 = .ok (.iload 20, 2) := by decide +kernel
theorem dXL_law_967 : decode qL_law.2.1 967 = .ok (.ifCond .ge 72, 3) := by decide +kernel
theorem dXL_law_970 : decode qL_law.2.1 970 = .ok (.aload 18, 2) := by decide +kernel
theorem dXL_law_972 : decode qL_law.2.1 972 = .ok (.iload 21, 2) := by decide +kernel
theorem dXL_law_974 : decode qL_law.2.1 974 = .ok (.baload, 1) := by decide +kernel
theorem dXL_law_975 : decode qL_law.2.1 975 = .ok (.ifCond .ne 58, 3) := by decide +kernel
theorem dXL_law_978 : decode qL_law.2.1 978 = .ok (.aload_n 1, 1) := by decide +kernel
theorem dXL_law_979 : decode qL_law.2.1 979 = .ok (.iload 15, 2) := by decide +kernel
theorem dXL_law_981 : decode qL_law.2.1 981 = .ok (.iload 19, 2) := by decide +kernel
theorem dXL_law_983 : decode qL_law.2.1 983 = .ok (.iconst 0, 1) := by decide +kernel
theorem dXL_law_984 : decode qL_law.2.1 984 = .ok (.invokevirtual 48, 3) := by decide +kernel
theorem dXL_law_987 : decode qL_law.2.1 987 = .ok (.aload 9, 2) := by decide +kernel
theorem dXL_law_989 : decode qL_law.2.1 989 = .ok (.iload 21, 2) := by decide +kernel
theorem dXL_law_991 : decode qL_law.2.1 991 = .ok (.iaload, 1) := by decide +kernel
theorem dXL_law_992 : decode qL_law.2.1 992 = .ok (.if_icmp .ne 41, 3) := by decide +kernel
theorem dXL_law_995 : decode qL_law.2.1 995 = .ok (.aload_n 1, 1) := by decide +kernel
theorem dXL_law_996 : decode qL_law.2.1 996 = .ok (.iload 15, 2) := by decide +kernel
theorem dXL_law_998 : decode qL_law.2.1 998 = .ok (.iload 19, 2) := by decide +kernel
theorem dXL_law_1000 : decode qL_law.2.1 1000 = .ok (.iconst 1, 1) := by decide +kernel
theorem dXL_law_1001 : decode qL_law.2.1 1001 = .ok (.invokevirtual 48, 3) := by decide +kernel
theorem dXL_law_1004 : decode qL_law.2.1 1004 = .ok (.aload 10, 2) := by decide +kernel
theorem dXL_law_1006 : decode qL_law.2.1 1006 = .ok (.iload 21, 2) := by decide +kernel
theorem dXL_law_1008 : decode qL_law.2.1 1008 = .ok (.iaload, 1) := by decide +kernel
theorem dXL_law_1009 : decode qL_law.2.1 1009 = .ok (.if_icmp .ne 24, 3) := by decide +kernel
theorem dXL_law_1012 : decode qL_law.2.1 1012 = .ok (.aload_n 1, 1) := by decide +kernel
theorem dXL_law_1013 : decode qL_law.2.1 1013 = .ok (.iload 15, 2) := by decide +kernel
theorem dXL_law_1015 : decode qL_law.2.1 1015 = .ok (.iload 19, 2) := by decide +kernel
theorem dXL_law_1017 : decode qL_law.2.1 1017 = .ok (.iconst 2, 1) := by decide +kernel
theorem dXL_law_1018 : decode qL_law.2.1 1018 = .ok (.invokevirtual 48, 3) := by decide +kernel
theorem dXL_law_1021 : decode qL_law.2.1 1021 = .ok (.aload 11, 2) := by decide +kernel
theorem dXL_law_1023 : decode qL_law.2.1 1023 = .ok (.iload 21, 2) := by decide +kernel
theorem dXL_law_1025 : decode qL_law.2.1 1025 = .ok (.iaload, 1) := by decide +kernel
theorem dXL_law_1026 : decode qL_law.2.1 1026 = .ok (.if_icmp .ne 7, 3) := by decide +kernel
theorem dXL_law_1029 : decode qL_law.2.1 1029 = .ok (.iload 21, 2) := by decide +kernel
theorem dXL_law_1031 : decode qL_law.2.1 1031 = .ok (.istore 20, 2) := by decide +kernel
theorem dXL_law_1033 : decode qL_law.2.1 1033 = .ok (.iinc 21 1, 3) := by decide +kernel
theorem dXL_law_1036 : decode qL_law.2.1 1036 = .ok (.goto (-78), 3) := by decide +kernel
theorem dXL_law_1039 : decode qL_law.2.1 1039 = .ok (.iload 20, 2) := by decide +kernel
theorem dXL_law_1041 : decode qL_law.2.1 1041 = .ok (.ifCond .lt 59, 3) := by decide +kernel
theorem dXL_law_1044 : decode qL_law.2.1 1044 = .ok (.aload_n 1, 1) := by decide +kernel
theorem dXL_law_1045 : decode qL_law.2.1 1045 = .ok (.iload 15, 2) := by decide +kernel
theorem dXL_law_1047 : decode qL_law.2.1 1047 = .ok (.iload 19, 2) := by decide +kernel
theorem dXL_law_1049 : decode qL_law.2.1 1049 = .ok (.bipush 8, 2) := by decide +kernel
theorem dXL_law_1051 : decode qL_law.2.1 1051 = .ok (.invokevirtual 48, 3) := by decide +kernel
theorem dXL_law_1054 : decode qL_law.2.1 1054 = .ok (.iconst 3, 1) := by decide +kernel
theorem dXL_law_1055 : decode qL_law.2.1 1055 = .ok (.if_icmp .ne 45, 3) := by decide +kernel
theorem dXL_law_1058 : decode qL_law.2.1 1058 = .ok (.aload_n 1, 1) := by decide +kernel
theorem dXL_law_1059 : decode qL_law.2.1 1059 = .ok (.iload 15, 2) := by decide +kernel
theorem dXL_law_1061 : decode qL_law.2.1 1061 = .ok (.iload 19, 2) := by decide +kernel
theorem dXL_law_1063 : decode qL_law.2.1 1063 = .ok (.bipush 10, 2) := by decide +kernel
theorem dXL_law_1065 : decode qL_law.2.1 1065 = .ok (.invokevirtual 48, 3) := by decide +kernel
theorem dXL_law_1068 : decode qL_law.2.1 1068 = .ok (.aload 9, 2) := by decide +kernel
theorem dXL_law_1070 : decode qL_law.2.1 1070 = .ok (.iload 20, 2) := by decide +kernel
theorem dXL_law_1072 : decode qL_law.2.1 1072 = .ok (.iaload, 1) := by decide +kernel
theorem dXL_law_1073 : decode qL_law.2.1 1073 = .ok (.aload 10, 2) := by decide +kernel
theorem dXL_law_1075 : decode qL_law.2.1 1075 = .ok (.iload 20, 2) := by decide +kernel
theorem dXL_law_1077 : decode qL_law.2.1 1077 = .ok (.iaload, 1) := by decide +kernel
theorem dXL_law_1078 : decode qL_law.2.1 1078 = .ok (.imul, 1) := by decide +kernel
theorem dXL_law_1079 : decode qL_law.2.1 1079 = .ok (.aload 11, 2) := by decide +kernel
theorem dXL_law_1081 : decode qL_law.2.1 1081 = .ok (.iload 20, 2) := by decide +kernel
theorem dXL_law_1083 : decode qL_law.2.1 1083 = .ok (.iaload, 1) := by decide +kernel
theorem dXL_law_1084 : decode qL_law.2.1 1084 = .ok (.isub, 1) := by decide +kernel
theorem dXL_law_1085 : decode qL_law.2.1 1085 = .ok (.if_icmp .ne 15, 3) := by decide +kernel
theorem dXL_law_1088 : decode qL_law.2.1 1088 = .ok (.aload_n 1, 1) := by decide +kernel
theorem dXL_law_1089 : decode qL_law.2.1 1089 = .ok (.iload 15, 2) := by decide +kernel
theorem dXL_law_1091 : decode qL_law.2.1 1091 = .ok (.iload 19, 2) := by decide +kernel
theorem dXL_law_1093 : decode qL_law.2.1 1093 = .ok (.iconst 3, 1) := by decide +kernel
theorem dXL_law_1094 : decode qL_law.2.1 1094 = .ok (.invokevirtual 48, 3) := by decide +kernel
theorem dXL_law_1097 : decode qL_law.2.1 1097 = .ok (.ifCond .eq 5, 3) := by decide +kernel
theorem dXL_law_1100 : decode qL_law.2.1 1100 = .ok (.iconst 0, 1) := by decide +kernel
theorem dXL_law_1101 : decode qL_law.2.1 1101 = .ok (.ireturn, 1) := by decide +kernel
theorem dXL_law_1102 : decode qL_law.2.1 1102 = .ok (.aload 18, 2) := by decide +kernel
theorem dXL_law_1104 : decode qL_law.2.1 1104 = .ok (.iload 20, 2) := by decide +kernel
theorem dXL_law_1106 : decode qL_law.2.1 1106 = .ok (.iconst 1, 1) := by decide +kernel
theorem dXL_law_1107 : decode qL_law.2.1 1107 = .ok (.bastore, 1) := by decide +kernel
theorem dXL_law_1108 : decode qL_law.2.1 1108 = .ok (.iload 14, 2) := by decide +kernel
theorem dXL_law_1110 : decode qL_law.2.1 1110 = .ok (.ifCond .eq 9, 3) := by decide +kernel
theorem dXL_law_1113 : decode qL_law.2.1 1113 = .ok (.iload 14, 2) := by decide +kernel
theorem dXL_law_1115 : decode qL_law.2.1 1115 = .ok (.iconst 5, 1) := by decide +kernel
theorem dXL_law_1116 : decode qL_law.2.1 1116 = .ok (.if_icmp .ne 12, 3) := by decide +kernel
theorem dXL_law_1119 : decode qL_law.2.1 1119 = .ok (.iload 20, 2) := by decide +kernel
theorem dXL_law_1121 : decode qL_law.2.1 1121 = .ok (.iload 19, 2) := by decide +kernel
theorem dXL_law_1123 : decode qL_law.2.1 1123 = .ok (.if_icmp .eq 5, 3) := by decide +kernel
theorem dXL_law_1126 : decode qL_law.2.1 1126 = .ok (.iconst 0, 1) := by decide +kernel
theorem dXL_law_1127 : decode qL_law.2.1 1127 = .ok (.ireturn, 1) := by decide +kernel
theorem dXL_law_1128 : decode qL_law.2.1 1128 = .ok (.iinc 19 1, 3) := by decide +kernel
theorem dXL_law_1131 : decode qL_law.2.1 1131 = .ok (.goto (-186), 3) := by decide +kernel
theorem dXL_law_1134 : decode qL_law.2.1 1134 = .ok (.aload_n 1, 1) := by decide +kernel
theorem dXL_law_1135 : decode qL_law.2.1 1135 = .ok (.iload 15, 2) := by decide +kernel
theorem dXL_law_1137 : decode qL_law.2.1 1137 = .ok (.iload 16, 2) := by decide +kernel
theorem dXL_law_1139 : decode qL_law.2.1 1139 = .ok (.iconst 0, 1) := by decide +kernel
theorem dXL_law_1140 : decode qL_law.2.1 1140 = .ok (.invokevirtual 48, 3) := by decide +kernel
theorem dXL_law_1143 : decode qL_law.2.1 1143 = .ok (.sipush (-2002), 3) := by decide +kernel
theorem dXL_law_1146 : decode qL_law.2.1 1146 = .ok (.if_icmp .ne 15, 3) := by decide +kernel
theorem dXL_law_1149 : decode qL_law.2.1 1149 = .ok (.iload 17, 2) := by decide +kernel
theorem dXL_law_1151 : decode qL_law.2.1 1151 = .ok (.aload_n 1, 1) := by decide +kernel
theorem dXL_law_1152 : decode qL_law.2.1 1152 = .ok (.iload 15, 2) := by decide +kernel
theorem dXL_law_1154 : decode qL_law.2.1 1154 = .ok (.iconst 2, 1) := by decide +kernel
theorem dXL_law_1155 : decode qL_law.2.1 1155 = .ok (.invokevirtual 35, 3) := by decide +kernel
theorem dXL_law_1158 : decode qL_law.2.1 1158 = .ok (.if_icmp .le 5, 3) := by decide +kernel
theorem dXL_law_1161 : decode qL_law.2.1 1161 = .ok (.iconst 0, 1) := by decide +kernel
theorem dXL_law_1162 : decode qL_law.2.1 1162 = .ok (.ireturn, 1) := by decide +kernel
theorem dXL_law_1163 : decode qL_law.2.1 1163 = .ok (.iconst 1, 1) := by decide +kernel
theorem dXL_law_1164 : decode qL_law.2.1 1164 = .ok (.istore 19, 2) := by decide +kernel
theorem dXL_law_1166 : decode qL_law.2.1 1166 = .ok (.iload 19, 2) := by decide +kernel
theorem dXL_law_1168 : decode qL_law.2.1 1168 = .ok (.iload 16, 2) := by decide +kernel
theorem dXL_law_1170 : decode qL_law.2.1 1170 = .ok (.if_icmp .ge 78, 3) := by decide +kernel
theorem dXL_law_1173 : decode qL_law.2.1 1173 = .ok (.aload_n 1, 1) := by decide +kernel
theorem dXL_law_1174 : decode qL_law.2.1 1174 = .ok (.iload 15, 2) := by decide +kernel
theorem dXL_law_1176 : decode qL_law.2.1 1176 = .ok (.iload 19, 2) := by decide +kernel
theorem dXL_law_1178 : decode qL_law.2.1 1178 = .ok (.iconst 1, 1) := by decide +kernel
theorem dXL_law_1179 : decode qL_law.2.1 1179 = .ok (.isub, 1) := by decide +kernel
theorem dXL_law_1180 : decode qL_law.2.1 1180 = .ok (.invokevirtual 51, 3) := by decide +kernel
theorem dXL_law_1183 : decode qL_law.2.1 1183 = .ok (.istore 20, 2) := by decide +kernel
theorem dXL_law_1185 : decode qL_law.2.1 1185 = .ok (.aload_n 1, 1) := by decide +kernel
theorem dXL_law_1186 : decode qL_law.2.1 1186 = .ok (.iload 15, 2) := by decide +kernel
theorem dXL_law_1188 : decode qL_law.2.1 1188 = .ok (.iload 19, 2) := by decide +kernel
theorem dXL_law_1190 : decode qL_law.2.1 1190 = .ok (.invokevirtual 51, 3) := by decide +kernel
theorem dXL_law_1193 : decode qL_law.2.1 1193 = .ok (.istore 21, 2) := by decide +kernel
theorem dXL_law_1195 : decode qL_law.2.1 1195 = .ok (.aload_n 1, 1) := by decide +kernel
theorem dXL_law_1196 : decode qL_law.2.1 1196 = .ok (.iload 15, 2) := by decide +kernel
theorem dXL_law_1198 : decode qL_law.2.1 1198 = .ok (.iload 20, 2) := by decide +kernel
theorem dXL_law_1200 : decode qL_law.2.1 1200 = .ok (.bipush 10, 2) := by decide +kernel
theorem dXL_law_1202 : decode qL_law.2.1 1202 = .ok (.invokevirtual 48, 3) := by decide +kernel
theorem dXL_law_1205 : decode qL_law.2.1 1205 = .ok (.istore 22, 2) := by decide +kernel
theorem dXL_law_1207 : decode qL_law.2.1 1207 = .ok (.aload_n 1, 1) := by decide +kernel
theorem dXL_law_1208 : decode qL_law.2.1 1208 = .ok (.iload 15, 2) := by decide +kernel
theorem dXL_law_1210 : decode qL_law.2.1 1210 = .ok (.iload 21, 2) := by decide +kernel
theorem dXL_law_1212 : decode qL_law.2.1 1212 = .ok (.bipush 10, 2) := by decide +kernel
theorem dXL_law_1214 : decode qL_law.2.1 1214 = .ok (.invokevirtual 48, 3) := by decide +kernel
theorem dXL_law_1217 : decode qL_law.2.1 1217 = .ok (.istore 23, 2) := by decide +kernel
theorem dXL_law_1219 : decode qL_law.2.1 1219 = .ok (.iload 22, 2) := by decide +kernel
theorem dXL_law_1221 : decode qL_law.2.1 1221 = .ok (.iload 23, 2) := by decide +kernel
theorem dXL_law_1223 : decode qL_law.2.1 1223 = .ok (.if_icmp .gt 17, 3) := by decide +kernel
theorem dXL_law_1226 : decode qL_law.2.1 1226 = .ok (.iload 22, 2) := by decide +kernel
theorem dXL_law_1228 : decode qL_law.2.1 1228 = .ok (.iload 23, 2) := by decide +kernel
theorem dXL_law_1230 : decode qL_law.2.1 1230 = .ok (.if_icmp .ne 12, 3) := by decide +kernel
theorem dXL_law_1233 : decode qL_law.2.1 1233 = .ok (.iload 20, 2) := by decide +kernel
theorem dXL_law_1235 : decode qL_law.2.1 1235 = .ok (.iload 21, 2) := by decide +kernel
theorem dXL_law_1237 : decode qL_law.2.1 1237 = .ok (.if_icmp .lt 5, 3) := by decide +kernel
theorem dXL_law_1240 : decode qL_law.2.1 1240 = .ok (.iconst 0, 1) := by decide +kernel
theorem dXL_law_1241 : decode qL_law.2.1 1241 = .ok (.ireturn, 1) := by decide +kernel
theorem dXL_law_1242 : decode qL_law.2.1 1242 = .ok (.iinc 19 1, 3) := by decide +kernel
theorem dXL_law_1245 : decode qL_law.2.1 1245 = .ok (.goto (-79), 3) := by decide +kernel
theorem dXL_law_1248 : decode qL_law.2.1 1248 = .ok (.iload 14, 2) := by decide +kernel
theorem dXL_law_1250 : decode qL_law.2.1 1250 = .ok (.iconst 5, 1) := by decide +kernel
theorem dXL_law_1251 : decode qL_law.2.1 1251 = .ok (.if_icmp .ne 24, 3) := by decide +kernel
theorem dXL_law_1254 : decode qL_law.2.1 1254 = .ok (.aload_n 1, 1) := by decide +kernel
theorem dXL_law_1255 : decode qL_law.2.1 1255 = .ok (.iload 15, 2) := by decide +kernel
theorem dXL_law_1257 : decode qL_law.2.1 1257 = .ok (.bipush 9, 2) := by decide +kernel
theorem dXL_law_1259 : decode qL_law.2.1 1259 = .ok (.invokevirtual 35, 3) := by decide +kernel
theorem dXL_law_1262 : decode qL_law.2.1 1262 = .ok (.iload 12, 2) := by decide +kernel
theorem dXL_law_1264 : decode qL_law.2.1 1264 = .ok (.ifCond .le 7, 3) := by decide +kernel
theorem dXL_law_1267 : decode qL_law.2.1 1267 = .ok (.iconst 3, 1) := by decide +kernel
theorem dXL_law_1268 : decode qL_law.2.1 1268 = .ok (.goto 4, 3) := by decide +kernel
theorem dXL_law_1271 : decode qL_law.2.1 1271 = .ok (.iconst 0, 1) := by decide +kernel
theorem dXL_law_1272 : decode qL_law.2.1 1272 = .ok (.if_icmp .lt 23, 3) := by decide +kernel
theorem dXL_law_1275 : decode qL_law.2.1 1275 = .ok (.iload 14, 2) := by decide +kernel
theorem dXL_law_1277 : decode qL_law.2.1 1277 = .ok (.iconst 5, 1) := by decide +kernel
theorem dXL_law_1278 : decode qL_law.2.1 1278 = .ok (.if_icmp .ge 19, 3) := by decide +kernel
theorem dXL_law_1281 : decode qL_law.2.1 1281 = .ok (.aload_n 1, 1) := by decide +kernel
theorem dXL_law_1282 : decode qL_law.2.1 1282 = .ok (.iload 15, 2) := by decide +kernel
theorem dXL_law_1284 : decode qL_law.2.1 1284 = .ok (.bipush 9, 2) := by decide +kernel
theorem dXL_law_1286 : decode qL_law.2.1 1286 = .ok (.invokevirtual 35, 3) := by decide +kernel
theorem dXL_law_1289 : decode qL_law.2.1 1289 = .ok (.sipush (-2002), 3) := by decide +kernel
theorem dXL_law_1292 : decode qL_law.2.1 1292 = .ok (.if_icmp .eq 5, 3) := by decide +kernel
theorem dXL_law_1295 : decode qL_law.2.1 1295 = .ok (.iconst 0, 1) := by decide +kernel
theorem dXL_law_1296 : decode qL_law.2.1 1296 = .ok (.ireturn, 1) := by decide +kernel
theorem dXL_law_1297 : decode qL_law.2.1 1297 = .ok (.iload 14, 2) := by decide +kernel
theorem dXL_law_1299 : decode qL_law.2.1 1299 = .ok (.iconst 5, 1) := by decide +kernel
theorem dXL_law_1300 : decode qL_law.2.1 1300 = .ok (.if_icmp .ge 70, 3) := by decide +kernel
theorem dXL_law_1303 : decode qL_law.2.1 1303 = .ok (.aload_n 1, 1) := by decide +kernel
theorem dXL_law_1304 : decode qL_law.2.1 1304 = .ok (.iload 15, 2) := by decide +kernel
theorem dXL_law_1306 : decode qL_law.2.1 1306 = .ok (.iconst 3, 1) := by decide +kernel
theorem dXL_law_1307 : decode qL_law.2.1 1307 = .ok (.invokevirtual 35, 3) := by decide +kernel
theorem dXL_law_1310 : decode qL_law.2.1 1310 = .ok (.ifCond .ne 58, 3) := by decide +kernel
theorem dXL_law_1313 : decode qL_law.2.1 1313 = .ok (.aload_n 1, 1) := by decide +kernel
theorem dXL_law_1314 : decode qL_law.2.1 1314 = .ok (.iload 15, 2) := by decide +kernel
theorem dXL_law_1316 : decode qL_law.2.1 1316 = .ok (.bipush 7, 2) := by decide +kernel
theorem dXL_law_1318 : decode qL_law.2.1 1318 = .ok (.invokevirtual 35, 3) := by decide +kernel
theorem dXL_law_1321 : decode qL_law.2.1 1321 = .ok (.ifCond .ne 47, 3) := by decide +kernel
theorem dXL_law_1324 : decode qL_law.2.1 1324 = .ok (.aload_n 1, 1) := by decide +kernel
theorem dXL_law_1325 : decode qL_law.2.1 1325 = .ok (.iload 15, 2) := by decide +kernel
theorem dXL_law_1327 : decode qL_law.2.1 1327 = .ok (.iconst 4, 1) := by decide +kernel
theorem dXL_law_1328 : decode qL_law.2.1 1328 = .ok (.invokevirtual 35, 3) := by decide +kernel
theorem dXL_law_1331 : decode qL_law.2.1 1331 = .ok (.aload_n 1, 1) := by decide +kernel
theorem dXL_law_1332 : decode qL_law.2.1 1332 = .ok (.iload 15, 2) := by decide +kernel
theorem dXL_law_1334 : decode qL_law.2.1 1334 = .ok (.iconst 5, 1) := by decide +kernel
theorem dXL_law_1335 : decode qL_law.2.1 1335 = .ok (.invokevirtual 35, 3) := by decide +kernel
theorem dXL_law_1338 : decode qL_law.2.1 1338 = .ok (.if_icmp .gt 30, 3) := by decide +kernel
theorem dXL_law_1341 : decode qL_law.2.1 1341 = .ok (.iload 13, 2) := by decide +kernel
theorem dXL_law_1343 : decode qL_law.2.1 1343 = .ok (.ifCond .le 27, 3) := by decide +kernel
theorem dXL_law_1346 : decode qL_law.2.1 1346 = .ok (.aload_n 1, 1) := by decide +kernel
theorem dXL_law_1347 : decode qL_law.2.1 1347 = .ok (.iload 15, 2) := by decide +kernel
theorem dXL_law_1349 : decode qL_law.2.1 1349 = .ok (.bipush 6, 2) := by decide +kernel
theorem dXL_law_1351 : decode qL_law.2.1 1351 = .ok (.invokevirtual 35, 3) := by decide +kernel
theorem dXL_law_1354 : decode qL_law.2.1 1354 = .ok (.iload 4, 2) := by decide +kernel
theorem dXL_law_1356 : decode qL_law.2.1 1356 = .ok (.iload_n 3, 1) := by decide +kernel
theorem dXL_law_1357 : decode qL_law.2.1 1357 = .ok (.isub, 1) := by decide +kernel
theorem dXL_law_1358 : decode qL_law.2.1 1358 = .ok (.iconst 1, 1) := by decide +kernel
theorem dXL_law_1359 : decode qL_law.2.1 1359 = .ok (.iadd, 1) := by decide +kernel
theorem dXL_law_1360 : decode qL_law.2.1 1360 = .ok (.iconst 4, 1) := by decide +kernel
theorem dXL_law_1361 : decode qL_law.2.1 1361 = .ok (.imul, 1) := by decide +kernel
theorem dXL_law_1362 : decode qL_law.2.1 1362 = .ok (.iload 13, 2) := by decide +kernel
theorem dXL_law_1364 : decode qL_law.2.1 1364 = .ok (.iadd, 1) := by decide +kernel
theorem dXL_law_1365 : decode qL_law.2.1 1365 = .ok (.if_icmp .eq 5, 3) := by decide +kernel
theorem dXL_law_1368 : decode qL_law.2.1 1368 = .ok (.iconst 0, 1) := by decide +kernel
theorem dXL_law_1369 : decode qL_law.2.1 1369 = .ok (.ireturn, 1) := by decide +kernel
theorem dXL_law_1370 : decode qL_law.2.1 1370 = .ok (.iinc 14 1, 3) := by decide +kernel
theorem dXL_law_1373 : decode qL_law.2.1 1373 = .ok (.goto (-703), 3) := by decide +kernel
theorem dXL_law_1376 : decode qL_law.2.1 1376 = .ok (.aload_n 1, 1) := by decide +kernel
theorem dXL_law_1377 : decode qL_law.2.1 1377 = .ok (.iconst 0, 1) := by decide +kernel
theorem dXL_law_1378 : decode qL_law.2.1 1378 = .ok (.iconst 1, 1) := by decide +kernel
theorem dXL_law_1379 : decode qL_law.2.1 1379 = .ok (.invokevirtual 54, 3) := by decide +kernel
theorem dXL_law_1382 : decode qL_law.2.1 1382 = .ok (.iload 12, 2) := by decide +kernel
theorem dXL_law_1384 : decode qL_law.2.1 1384 = .ok (.if_icmp .ne 41, 3) := by decide +kernel
theorem dXL_law_1387 : decode qL_law.2.1 1387 = .ok (.aload_n 1, 1) := by decide +kernel
theorem dXL_law_1388 : decode qL_law.2.1 1388 = .ok (.iconst 2, 1) := by decide +kernel
theorem dXL_law_1389 : decode qL_law.2.1 1389 = .ok (.iconst 3, 1) := by decide +kernel
theorem dXL_law_1390 : decode qL_law.2.1 1390 = .ok (.invokevirtual 54, 3) := by decide +kernel
theorem dXL_law_1393 : decode qL_law.2.1 1393 = .ok (.iload 12, 2) := by decide +kernel
theorem dXL_law_1395 : decode qL_law.2.1 1395 = .ok (.if_icmp .ne 30, 3) := by decide +kernel
theorem dXL_law_1398 : decode qL_law.2.1 1398 = .ok (.aload_n 1, 1) := by decide +kernel
theorem dXL_law_1399 : decode qL_law.2.1 1399 = .ok (.iconst 0, 1) := by decide +kernel
theorem dXL_law_1400 : decode qL_law.2.1 1400 = .ok (.invokevirtual 57, 3) := by decide +kernel
theorem dXL_law_1403 : decode qL_law.2.1 1403 = .ok (.iload 12, 2) := by decide +kernel
theorem dXL_law_1405 : decode qL_law.2.1 1405 = .ok (.if_icmp .gt 20, 3) := by decide +kernel
theorem dXL_law_1408 : decode qL_law.2.1 1408 = .ok (.aload_n 1, 1) := by decide +kernel
theorem dXL_law_1409 : decode qL_law.2.1 1409 = .ok (.iconst 0, 1) := by decide +kernel
theorem dXL_law_1410 : decode qL_law.2.1 1410 = .ok (.invokevirtual 57, 3) := by decide +kernel
theorem dXL_law_1413 : decode qL_law.2.1 1413 = .ok (.aload_n 1, 1) := by decide +kernel
theorem dXL_law_1414 : decode qL_law.2.1 1414 = .ok (.iconst 3, 1) := by decide +kernel
theorem dXL_law_1415 : decode qL_law.2.1 1415 = .ok (.invokevirtual 57, 3) := by decide +kernel
theorem dXL_law_1418 : decode qL_law.2.1 1418 = .ok (.if_icmp .ne 7, 3) := by decide +kernel
theorem dXL_law_1421 : decode qL_law.2.1 1421 = .ok (.iconst 1, 1) := by decide +kernel
theorem dXL_law_1422 : decode qL_law.2.1 1422 = .ok (.goto 4, 3) := by decide +kernel
theorem dXL_law_1425 : decode qL_law.2.1 1425 = .ok (.iconst 0, 1) := by decide +kernel
theorem dXL_law_1426 : decode qL_law.2.1 1426 = .ok (.ireturn, 1) := by decide +kernel
