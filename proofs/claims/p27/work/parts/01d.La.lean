theorem dL_cell_0 : decode cL_cell 0 = .ok (.iload_n 1, 1) := by decide +kernel
theorem dL_cell_1 : decode cL_cell 1 = .ok (.aload_n 0, 1) := by decide +kernel
theorem dL_cell_2 : decode cL_cell 2 = .ok (.arraylength, 1) := by decide +kernel
theorem dL_cell_3 : decode cL_cell 3 = .ok (.if_icmp .ge 9, 3) := by decide +kernel
theorem dL_cell_6 : decode cL_cell 6 = .ok (.aload_n 0, 1) := by decide +kernel
theorem dL_cell_7 : decode cL_cell 7 = .ok (.iload_n 1, 1) := by decide +kernel
theorem dL_cell_8 : decode cL_cell 8 = .ok (.iaload, 1) := by decide +kernel
theorem dL_cell_9 : decode cL_cell 9 = .ok (.goto 11, 3) := by decide +kernel
theorem dL_cell_12 : decode cL_cell 12 = .ok (.ldc 7, 2) := by decide +kernel
theorem dL_cell_14 : decode cL_cell 14 = .ok (.iload_n 1, 1) := by decide +kernel
theorem dL_cell_15 : decode cL_cell 15 = .ok (.imul, 1) := by decide +kernel
theorem dL_cell_16 : decode cL_cell 16 = .ok (.sipush 731, 3) := by decide +kernel
theorem dL_cell_19 : decode cL_cell 19 = .ok (.iadd, 1) := by decide +kernel
theorem dL_cell_20 : decode cL_cell 20 = .ok (.ireturn, 1) := by decide +kernel
theorem dL_between_0 : decode cL_between 0 = .ok (.iload_n 1, 1) := by decide +kernel
theorem dL_between_1 : decode cL_between 1 = .ok (.iload_n 0, 1) := by decide +kernel
theorem dL_between_2 : decode cL_between 2 = .ok (.ldc 8, 2) := by decide +kernel
theorem dL_between_4 : decode cL_between 4 = .ok (.iand, 1) := by decide +kernel
theorem dL_between_5 : decode cL_between 5 = .ok (.iload_n 2, 1) := by decide +kernel
theorem dL_between_6 : decode cL_between 6 = .ok (.iload_n 1, 1) := by decide +kernel
theorem dL_between_7 : decode cL_between 7 = .ok (.isub, 1) := by decide +kernel
theorem dL_between_8 : decode cL_between 8 = .ok (.iconst 1, 1) := by decide +kernel
theorem dL_between_9 : decode cL_between 9 = .ok (.iadd, 1) := by decide +kernel
theorem dL_between_10 : decode cL_between 10 = .ok (.irem, 1) := by decide +kernel
theorem dL_between_11 : decode cL_between 11 = .ok (.iadd, 1) := by decide +kernel
theorem dL_between_12 : decode cL_between 12 = .ok (.ireturn, 1) := by decide +kernel
theorem dL_poly_0 : decode cL_poly 0 = .ok (.iconst 0, 1) := by decide +kernel
theorem dL_poly_1 : decode cL_poly 1 = .ok (.istore_n 3, 1) := by decide +kernel
theorem dL_poly_2 : decode cL_poly 2 = .ok (.iload_n 3, 1) := by decide +kernel
theorem dL_poly_3 : decode cL_poly 3 = .ok (.aload_n 2, 1) := by decide +kernel
theorem dL_poly_4 : decode cL_poly 4 = .ok (.invokevirtual 9, 3) := by decide +kernel
theorem dL_poly_7 : decode cL_poly 7 = .ok (.if_icmp .ge 100, 3) := by decide +kernel
theorem dL_poly_10 : decode cL_poly 10 = .ok (.iconst 5, 1) := by decide +kernel
theorem dL_poly_11 : decode cL_poly 11 = .ok (.newarray .int, 2) := by decide +kernel
theorem dL_poly_13 : decode cL_poly 13 = .ok (.astore 4, 2) := by decide +kernel
theorem dL_poly_15 : decode cL_poly 15 = .ok (.iconst 0, 1) := by decide +kernel
theorem dL_poly_16 : decode cL_poly 16 = .ok (.istore 5, 2) := by decide +kernel
theorem dL_poly_18 : decode cL_poly 18 = .ok (.iload 5, 2) := by decide +kernel
theorem dL_poly_20 : decode cL_poly 20 = .ok (.bipush 20, 2) := by decide +kernel
theorem dL_poly_22 : decode cL_poly 22 = .ok (.if_icmp .ge 54, 3) := by decide +kernel
theorem dL_poly_25 : decode cL_poly 25 = .ok (.aload 4, 2) := by decide +kernel
theorem dL_poly_27 : decode cL_poly 27 = .ok (.iload 5, 2) := by decide +kernel
theorem dL_poly_29 : decode cL_poly 29 = .ok (.iconst 4, 1) := by decide +kernel
theorem dL_poly_30 : decode cL_poly 30 = .ok (.idiv, 1) := by decide +kernel
theorem dL_poly_31 : decode cL_poly 31 = .ok (.dup2, 1) := by decide +kernel
theorem dL_poly_32 : decode cL_poly 32 = .ok (.iaload, 1) := by decide +kernel
theorem dL_poly_33 : decode cL_poly 33 = .ok (.iload_n 3, 1) := by decide +kernel
theorem dL_poly_34 : decode cL_poly 34 = .ok (.iload 5, 2) := by decide +kernel
theorem dL_poly_36 : decode cL_poly 36 = .ok (.iadd, 1) := by decide +kernel
theorem dL_poly_37 : decode cL_poly 37 = .ok (.aload_n 2, 1) := by decide +kernel
theorem dL_poly_38 : decode cL_poly 38 = .ok (.invokevirtual 9, 3) := by decide +kernel
theorem dL_poly_41 : decode cL_poly 41 = .ok (.if_icmp .ge 14, 3) := by decide +kernel
theorem dL_poly_44 : decode cL_poly 44 = .ok (.aload_n 2, 1) := by decide +kernel
theorem dL_poly_45 : decode cL_poly 45 = .ok (.iload_n 3, 1) := by decide +kernel
theorem dL_poly_46 : decode cL_poly 46 = .ok (.iload 5, 2) := by decide +kernel
theorem dL_poly_48 : decode cL_poly 48 = .ok (.iadd, 1) := by decide +kernel
theorem dL_poly_49 : decode cL_poly 49 = .ok (.invokevirtual 15, 3) := by decide +kernel
theorem dL_poly_52 : decode cL_poly 52 = .ok (.goto 5, 3) := by decide +kernel
theorem dL_poly_55 : decode cL_poly 55 = .ok (.bipush 32, 2) := by decide +kernel
theorem dL_poly_57 : decode cL_poly 57 = .ok (.bipush 24, 2) := by decide +kernel
theorem dL_poly_59 : decode cL_poly 59 = .ok (.bipush 8, 2) := by decide +kernel
theorem dL_poly_61 : decode cL_poly 61 = .ok (.iload 5, 2) := by decide +kernel
theorem dL_poly_63 : decode cL_poly 63 = .ok (.iconst 4, 1) := by decide +kernel
theorem dL_poly_64 : decode cL_poly 64 = .ok (.irem, 1) := by decide +kernel
theorem dL_poly_65 : decode cL_poly 65 = .ok (.imul, 1) := by decide +kernel
theorem dL_poly_66 : decode cL_poly 66 = .ok (.isub, 1) := by decide +kernel
theorem dL_poly_67 : decode cL_poly 67 = .ok (.ishl, 1) := by decide +kernel
theorem dL_poly_68 : decode cL_poly 68 = .ok (.ior, 1) := by decide +kernel
theorem dL_poly_69 : decode cL_poly 69 = .ok (.iastore, 1) := by decide +kernel
theorem dL_poly_70 : decode cL_poly 70 = .ok (.iinc 5 1, 3) := by decide +kernel
theorem dL_poly_73 : decode cL_poly 73 = .ok (.goto (-55), 3) := by decide +kernel
theorem dL_poly_76 : decode cL_poly 76 = .ok (.aload_n 0, 1) := by decide +kernel
theorem dL_poly_77 : decode cL_poly 77 = .ok (.aload 4, 2) := by decide +kernel
theorem dL_poly_79 : decode cL_poly 79 = .ok (.iconst 0, 1) := by decide +kernel
theorem dL_poly_80 : decode cL_poly 80 = .ok (.iaload, 1) := by decide +kernel
theorem dL_poly_81 : decode cL_poly 81 = .ok (.aload 4, 2) := by decide +kernel
theorem dL_poly_83 : decode cL_poly 83 = .ok (.iconst 1, 1) := by decide +kernel
theorem dL_poly_84 : decode cL_poly 84 = .ok (.iaload, 1) := by decide +kernel
theorem dL_poly_85 : decode cL_poly 85 = .ok (.aload 4, 2) := by decide +kernel
theorem dL_poly_87 : decode cL_poly 87 = .ok (.iconst 2, 1) := by decide +kernel
theorem dL_poly_88 : decode cL_poly 88 = .ok (.iaload, 1) := by decide +kernel
theorem dL_poly_89 : decode cL_poly 89 = .ok (.aload 4, 2) := by decide +kernel
theorem dL_poly_91 : decode cL_poly 91 = .ok (.iconst 3, 1) := by decide +kernel
theorem dL_poly_92 : decode cL_poly 92 = .ok (.iaload, 1) := by decide +kernel
theorem dL_poly_93 : decode cL_poly 93 = .ok (.aload 4, 2) := by decide +kernel
theorem dL_poly_95 : decode cL_poly 95 = .ok (.iconst 4, 1) := by decide +kernel
theorem dL_poly_96 : decode cL_poly 96 = .ok (.iaload, 1) := by decide +kernel
theorem dL_poly_97 : decode cL_poly 97 = .ok (.invokevirtual 19, 3) := by decide +kernel
theorem dL_poly_100 : decode cL_poly 100 = .ok (.pop, 1) := by decide +kernel
theorem dL_poly_101 : decode cL_poly 101 = .ok (.iinc 3 20, 3) := by decide +kernel
theorem dL_poly_104 : decode cL_poly 104 = .ok (.goto (-102), 3) := by decide +kernel
theorem dL_poly_107 : decode cL_poly 107 = .ok (.aload_n 0, 1) := by decide +kernel
theorem dL_poly_108 : decode cL_poly 108 = .ok (.aload_n 2, 1) := by decide +kernel
theorem dL_poly_109 : decode cL_poly 109 = .ok (.invokevirtual 9, 3) := by decide +kernel
theorem dL_poly_112 : decode cL_poly 112 = .ok (.invokevirtual 25, 3) := by decide +kernel
theorem dL_poly_115 : decode cL_poly 115 = .ok (.pop, 1) := by decide +kernel
theorem dL_poly_116 : decode cL_poly 116 = .ok (.aload_n 0, 1) := by decide +kernel
theorem dL_poly_117 : decode cL_poly 117 = .ok (.iload_n 1, 1) := by decide +kernel
theorem dL_poly_118 : decode cL_poly 118 = .ok (.invokevirtual 29, 3) := by decide +kernel
theorem dL_poly_121 : decode cL_poly 121 = .ok (.ireturn, 1) := by decide +kernel
theorem dL_said_0 : decode cL_said 0 = .ok (.aload_n 0, 1) := by decide +kernel
theorem dL_said_1 : decode cL_said 1 = .ok (.iload_n 1, 1) := by decide +kernel
theorem dL_said_2 : decode cL_said 2 = .ok (.invokevirtual 33, 3) := by decide +kernel
theorem dL_said_5 : decode cL_said 5 = .ok (.istore_n 2, 1) := by decide +kernel
theorem dL_said_6 : decode cL_said 6 = .ok (.new 36, 3) := by decide +kernel
theorem dL_said_9 : decode cL_said 9 = .ok (.dup, 1) := by decide +kernel
theorem dL_said_10 : decode cL_said 10 = .ok (.invokespecial 38, 3) := by decide +kernel
theorem dL_said_13 : decode cL_said 13 = .ok (.astore_n 3, 1) := by decide +kernel
theorem dL_said_14 : decode cL_said 14 = .ok (.iconst 0, 1) := by decide +kernel
theorem dL_said_15 : decode cL_said 15 = .ok (.istore 4, 2) := by decide +kernel
theorem dL_said_17 : decode cL_said 17 = .ok (.iload 4, 2) := by decide +kernel
theorem dL_said_19 : decode cL_said 19 = .ok (.iload_n 2, 1) := by decide +kernel
theorem dL_said_20 : decode cL_said 20 = .ok (.if_icmp .ge 21, 3) := by decide +kernel
theorem dL_said_23 : decode cL_said 23 = .ok (.aload_n 3, 1) := by decide +kernel
theorem dL_said_24 : decode cL_said 24 = .ok (.aload_n 0, 1) := by decide +kernel
theorem dL_said_25 : decode cL_said 25 = .ok (.iload 4, 2) := by decide +kernel
theorem dL_said_27 : decode cL_said 27 = .ok (.invokevirtual 39, 3) := by decide +kernel
theorem dL_said_30 : decode cL_said 30 = .ok (.i2c, 1) := by decide +kernel
theorem dL_said_31 : decode cL_said 31 = .ok (.invokevirtual 42, 3) := by decide +kernel
theorem dL_said_34 : decode cL_said 34 = .ok (.pop, 1) := by decide +kernel
theorem dL_said_35 : decode cL_said 35 = .ok (.iinc 4 1, 3) := by decide +kernel
theorem dL_said_38 : decode cL_said 38 = .ok (.goto (-21), 3) := by decide +kernel
theorem dL_said_41 : decode cL_said 41 = .ok (.aload_n 3, 1) := by decide +kernel
theorem dL_said_42 : decode cL_said 42 = .ok (.invokevirtual 46, 3) := by decide +kernel
theorem dL_said_45 : decode cL_said 45 = .ok (.areturn, 1) := by decide +kernel
theorem dL_drawn_0 : decode cL_drawn 0 = .ok (.new 36, 3) := by decide +kernel
theorem dL_drawn_3 : decode cL_drawn 3 = .ok (.dup, 1) := by decide +kernel
theorem dL_drawn_4 : decode cL_drawn 4 = .ok (.invokespecial 38, 3) := by decide +kernel
theorem dL_drawn_7 : decode cL_drawn 7 = .ok (.astore 5, 2) := by decide +kernel
theorem dL_drawn_9 : decode cL_drawn 9 = .ok (.iconst 0, 1) := by decide +kernel
theorem dL_drawn_10 : decode cL_drawn 10 = .ok (.istore 6, 2) := by decide +kernel
theorem dL_drawn_12 : decode cL_drawn 12 = .ok (.iload 6, 2) := by decide +kernel
theorem dL_drawn_14 : decode cL_drawn 14 = .ok (.iload_n 3, 1) := by decide +kernel
theorem dL_drawn_15 : decode cL_drawn 15 = .ok (.if_icmp .ge 220, 3) := by decide +kernel
theorem dL_drawn_18 : decode cL_drawn 18 = .ok (.iload_n 0, 1) := by decide +kernel
theorem dL_drawn_19 : decode cL_drawn 19 = .ok (.iconst 2, 1) := by decide +kernel
theorem dL_drawn_20 : decode cL_drawn 20 = .ok (.iload 6, 2) := by decide +kernel
theorem dL_drawn_22 : decode cL_drawn 22 = .ok (.imul, 1) := by decide +kernel
theorem dL_drawn_23 : decode cL_drawn 23 = .ok (.iconst 1, 1) := by decide +kernel
theorem dL_drawn_24 : decode cL_drawn 24 = .ok (.iadd, 1) := by decide +kernel
theorem dL_drawn_25 : decode cL_drawn 25 = .ok (.imul, 1) := by decide +kernel
theorem dL_drawn_26 : decode cL_drawn 26 = .ok (.iload_n 1, 1) := by decide +kernel
theorem dL_drawn_27 : decode cL_drawn 27 = .ok (.iload 6, 2) := by decide +kernel
theorem dL_drawn_29 : decode cL_drawn 29 = .ok (.iconst 3, 1) := by decide +kernel
theorem dL_drawn_30 : decode cL_drawn 30 = .ok (.iadd, 1) := by decide +kernel
theorem dL_drawn_31 : decode cL_drawn 31 = .ok (.imul, 1) := by decide +kernel
theorem dL_drawn_32 : decode cL_drawn 32 = .ok (.iadd, 1) := by decide +kernel
theorem dL_drawn_33 : decode cL_drawn 33 = .ok (.bipush 77, 2) := by decide +kernel
theorem dL_drawn_35 : decode cL_drawn 35 = .ok (.iload 6, 2) := by decide +kernel
theorem dL_drawn_37 : decode cL_drawn 37 = .ok (.imul, 1) := by decide +kernel
theorem dL_drawn_38 : decode cL_drawn 38 = .ok (.iadd, 1) := by decide +kernel
theorem dL_drawn_39 : decode cL_drawn 39 = .ok (.istore 7, 2) := by decide +kernel
theorem dL_drawn_41 : decode cL_drawn 41 = .ok (.iload 4, 2) := by decide +kernel
theorem dL_drawn_43 : decode cL_drawn 43 = .ok (.iload 7, 2) := by decide +kernel
theorem dL_drawn_45 : decode cL_drawn 45 = .ok (.iconst 2, 1) := by decide +kernel
theorem dL_drawn_46 : decode cL_drawn 46 = .ok (.ishr, 1) := by decide +kernel
theorem dL_drawn_47 : decode cL_drawn 47 = .ok (.iconst 0, 1) := by decide +kernel
theorem dL_drawn_48 : decode cL_drawn 48 = .ok (.iconst 2, 1) := by decide +kernel
theorem dL_drawn_49 : decode cL_drawn 49 = .ok (.invokestatic 50, 3) := by decide +kernel
theorem dL_drawn_52 : decode cL_drawn 52 = .ok (.iadd, 1) := by decide +kernel
theorem dL_drawn_53 : decode cL_drawn 53 = .ok (.istore 8, 2) := by decide +kernel
theorem dL_drawn_55 : decode cL_drawn 55 = .ok (.iload_n 2, 1) := by decide +kernel
theorem dL_drawn_56 : decode cL_drawn 56 = .ok (.iconst 1, 1) := by decide +kernel
theorem dL_drawn_57 : decode cL_drawn 57 = .ok (.if_icmp .ne 8, 3) := by decide +kernel
theorem dL_drawn_60 : decode cL_drawn 60 = .ok (.iload 8, 2) := by decide +kernel
theorem dL_drawn_62 : decode cL_drawn 62 = .ok (.goto 13, 3) := by decide +kernel
theorem dL_drawn_65 : decode cL_drawn 65 = .ok (.iload 7, 2) := by decide +kernel
theorem dL_drawn_67 : decode cL_drawn 67 = .ok (.iconst 4, 1) := by decide +kernel
theorem dL_drawn_68 : decode cL_drawn 68 = .ok (.ishr, 1) := by decide +kernel
theorem dL_drawn_69 : decode cL_drawn 69 = .ok (.iconst 0, 1) := by decide +kernel
theorem dL_drawn_70 : decode cL_drawn 70 = .ok (.iload 8, 2) := by decide +kernel
theorem dL_drawn_72 : decode cL_drawn 72 = .ok (.invokestatic 50, 3) := by decide +kernel
theorem dL_drawn_75 : decode cL_drawn 75 = .ok (.istore 9, 2) := by decide +kernel
theorem dL_drawn_77 : decode cL_drawn 77 = .ok (.iload_n 2, 1) := by decide +kernel
theorem dL_drawn_78 : decode cL_drawn 78 = .ok (.iconst 1, 1) := by decide +kernel
theorem dL_drawn_79 : decode cL_drawn 79 = .ok (.if_icmp .ne 7, 3) := by decide +kernel
theorem dL_drawn_82 : decode cL_drawn 82 = .ok (.iconst 0, 1) := by decide +kernel
theorem dL_drawn_83 : decode cL_drawn 83 = .ok (.goto 30, 3) := by decide +kernel
theorem dL_drawn_86 : decode cL_drawn 86 = .ok (.iload_n 2, 1) := by decide +kernel
theorem dL_drawn_87 : decode cL_drawn 87 = .ok (.iconst 2, 1) := by decide +kernel
theorem dL_drawn_88 : decode cL_drawn 88 = .ok (.if_icmp .ne 11, 3) := by decide +kernel
theorem dL_drawn_91 : decode cL_drawn 91 = .ok (.iload 8, 2) := by decide +kernel
theorem dL_drawn_93 : decode cL_drawn 93 = .ok (.iload 9, 2) := by decide +kernel
theorem dL_drawn_95 : decode cL_drawn 95 = .ok (.isub, 1) := by decide +kernel
theorem dL_drawn_96 : decode cL_drawn 96 = .ok (.goto 17, 3) := by decide +kernel
theorem dL_drawn_99 : decode cL_drawn 99 = .ok (.iload 7, 2) := by decide +kernel
theorem dL_drawn_101 : decode cL_drawn 101 = .ok (.bipush 9, 2) := by decide +kernel
theorem dL_drawn_103 : decode cL_drawn 103 = .ok (.ishr, 1) := by decide +kernel
theorem dL_drawn_104 : decode cL_drawn 104 = .ok (.iconst 0, 1) := by decide +kernel
theorem dL_drawn_105 : decode cL_drawn 105 = .ok (.iload 8, 2) := by decide +kernel
theorem dL_drawn_107 : decode cL_drawn 107 = .ok (.iload 9, 2) := by decide +kernel
theorem dL_drawn_109 : decode cL_drawn 109 = .ok (.isub, 1) := by decide +kernel
theorem dL_drawn_110 : decode cL_drawn 110 = .ok (.invokestatic 50, 3) := by decide +kernel
theorem dL_drawn_113 : decode cL_drawn 113 = .ok (.istore 10, 2) := by decide +kernel
theorem dL_drawn_115 : decode cL_drawn 115 = .ok (.aload 5, 2) := by decide +kernel
theorem dL_drawn_117 : decode cL_drawn 117 = .ok (.iload 6, 2) := by decide +kernel
theorem dL_drawn_119 : decode cL_drawn 119 = .ok (.ifCond .ne 8, 3) := by decide +kernel
theorem dL_drawn_122 : decode cL_drawn 122 = .ok (.ldc 56, 2) := by decide +kernel
theorem dL_drawn_124 : decode cL_drawn 124 = .ok (.goto 17, 3) := by decide +kernel
theorem dL_drawn_127 : decode cL_drawn 127 = .ok (.iload 7, 2) := by decide +kernel
theorem dL_drawn_129 : decode cL_drawn 129 = .ok (.iconst 1, 1) := by decide +kernel
theorem dL_drawn_130 : decode cL_drawn 130 = .ok (.iand, 1) := by decide +kernel
theorem dL_drawn_131 : decode cL_drawn 131 = .ok (.ifCond .ne 8, 3) := by decide +kernel
theorem dL_drawn_134 : decode cL_drawn 134 = .ok (.ldc 58, 2) := by decide +kernel
theorem dL_drawn_136 : decode cL_drawn 136 = .ok (.goto 5, 3) := by decide +kernel
theorem dL_drawn_139 : decode cL_drawn 139 = .ok (.ldc 60, 2) := by decide +kernel
theorem dL_drawn_141 : decode cL_drawn 141 = .ok (.invokevirtual 62, 3) := by decide +kernel
theorem dL_drawn_144 : decode cL_drawn 144 = .ok (.iload 7, 2) := by decide +kernel
theorem dL_drawn_146 : decode cL_drawn 146 = .ok (.bipush 12, 2) := by decide +kernel
theorem dL_drawn_148 : decode cL_drawn 148 = .ok (.ishr, 1) := by decide +kernel
theorem dL_drawn_149 : decode cL_drawn 149 = .ok (.iconst 1, 1) := by decide +kernel
theorem dL_drawn_150 : decode cL_drawn 150 = .ok (.bipush 9, 2) := by decide +kernel
theorem dL_drawn_152 : decode cL_drawn 152 = .ok (.invokestatic 50, 3) := by decide +kernel
theorem dL_drawn_155 : decode cL_drawn 155 = .ok (.invokevirtual 65, 3) := by decide +kernel
theorem dL_drawn_158 : decode cL_drawn 158 = .ok (.pop, 1) := by decide +kernel
theorem dL_drawn_159 : decode cL_drawn 159 = .ok (.iload 9, 2) := by decide +kernel
theorem dL_drawn_161 : decode cL_drawn 161 = .ok (.ifCond .le 16, 3) := by decide +kernel
theorem dL_drawn_164 : decode cL_drawn 164 = .ok (.aload 5, 2) := by decide +kernel
theorem dL_drawn_166 : decode cL_drawn 166 = .ok (.ldc 68, 2) := by decide +kernel
theorem dL_drawn_168 : decode cL_drawn 168 = .ok (.invokevirtual 62, 3) := by decide +kernel
theorem dL_drawn_171 : decode cL_drawn 171 = .ok (.iload 9, 2) := by decide +kernel
theorem dL_drawn_173 : decode cL_drawn 173 = .ok (.invokevirtual 65, 3) := by decide +kernel
theorem dL_drawn_176 : decode cL_drawn 176 = .ok (.pop, 1) := by decide +kernel
theorem dL_drawn_177 : decode cL_drawn 177 = .ok (.iload 10, 2) := by decide +kernel
theorem dL_drawn_179 : decode cL_drawn 179 = .ok (.ifCond .le 16, 3) := by decide +kernel
theorem dL_drawn_182 : decode cL_drawn 182 = .ok (.aload 5, 2) := by decide +kernel
theorem dL_drawn_184 : decode cL_drawn 184 = .ok (.ldc 70, 2) := by decide +kernel
theorem dL_drawn_186 : decode cL_drawn 186 = .ok (.invokevirtual 62, 3) := by decide +kernel
theorem dL_drawn_189 : decode cL_drawn 189 = .ok (.iload 10, 2) := by decide +kernel
theorem dL_drawn_191 : decode cL_drawn 191 = .ok (.invokevirtual 65, 3) := by decide +kernel
theorem dL_drawn_194 : decode cL_drawn 194 = .ok (.pop, 1) := by decide +kernel
theorem dL_drawn_195 : decode cL_drawn 195 = .ok (.iload_n 2, 1) := by decide +kernel
theorem dL_drawn_196 : decode cL_drawn 196 = .ok (.iconst 3, 1) := by decide +kernel
theorem dL_drawn_197 : decode cL_drawn 197 = .ok (.if_icmp .ne 32, 3) := by decide +kernel
theorem dL_drawn_200 : decode cL_drawn 200 = .ok (.iload 8, 2) := by decide +kernel
theorem dL_drawn_202 : decode cL_drawn 202 = .ok (.iload 9, 2) := by decide +kernel
theorem dL_drawn_204 : decode cL_drawn 204 = .ok (.iload 10, 2) := by decide +kernel
theorem dL_drawn_206 : decode cL_drawn 206 = .ok (.iadd, 1) := by decide +kernel
theorem dL_drawn_207 : decode cL_drawn 207 = .ok (.if_icmp .le 22, 3) := by decide +kernel
theorem dL_drawn_210 : decode cL_drawn 210 = .ok (.aload 5, 2) := by decide +kernel
theorem dL_drawn_212 : decode cL_drawn 212 = .ok (.ldc 72, 2) := by decide +kernel
theorem dL_drawn_214 : decode cL_drawn 214 = .ok (.invokevirtual 62, 3) := by decide +kernel
theorem dL_drawn_217 : decode cL_drawn 217 = .ok (.iload 8, 2) := by decide +kernel
theorem dL_drawn_219 : decode cL_drawn 219 = .ok (.iload 9, 2) := by decide +kernel
theorem dL_drawn_221 : decode cL_drawn 221 = .ok (.isub, 1) := by decide +kernel
theorem dL_drawn_222 : decode cL_drawn 222 = .ok (.iload 10, 2) := by decide +kernel
theorem dL_drawn_224 : decode cL_drawn 224 = .ok (.isub, 1) := by decide +kernel
theorem dL_drawn_225 : decode cL_drawn 225 = .ok (.invokevirtual 65, 3) := by decide +kernel
theorem dL_drawn_228 : decode cL_drawn 228 = .ok (.pop, 1) := by decide +kernel
theorem dL_drawn_229 : decode cL_drawn 229 = .ok (.iinc 6 1, 3) := by decide +kernel
theorem dL_drawn_232 : decode cL_drawn 232 = .ok (.goto (-220), 3) := by decide +kernel
theorem dL_drawn_235 : decode cL_drawn 235 = .ok (.aload 5, 2) := by decide +kernel
theorem dL_drawn_237 : decode cL_drawn 237 = .ok (.invokevirtual 46, 3) := by decide +kernel
theorem dL_drawn_240 : decode cL_drawn 240 = .ok (.areturn, 1) := by decide +kernel
theorem dL_law_0 : decode cL_law 0 = .ok (.new 20, 3) := by decide +kernel
theorem dL_law_3 : decode cL_law 3 = .ok (.dup, 1) := by decide +kernel
theorem dL_law_4 : decode cL_law 4 = .ok (.invokespecial 74, 3) := by decide +kernel
theorem dL_law_7 : decode cL_law 7 = .ok (.astore_n 1, 1) := by decide +kernel
theorem dL_law_8 : decode cL_law 8 = .ok (.aload_n 0, 1) := by decide +kernel
theorem dL_law_9 : decode cL_law 9 = .ok (.iconst 0, 1) := by decide +kernel
theorem dL_law_10 : decode cL_law 10 = .ok (.invokestatic 75, 3) := by decide +kernel
theorem dL_law_13 : decode cL_law 13 = .ok (.iconst 1, 1) := by decide +kernel
theorem dL_law_14 : decode cL_law 14 = .ok (.iconst 3, 1) := by decide +kernel
theorem dL_law_15 : decode cL_law 15 = .ok (.invokestatic 50, 3) := by decide +kernel
theorem dL_law_18 : decode cL_law 18 = .ok (.istore_n 2, 1) := by decide +kernel
theorem dL_law_19 : decode cL_law 19 = .ok (.aload_n 1, 1) := by decide +kernel
theorem dL_law_20 : decode cL_law 20 = .ok (.iload_n 2, 1) := by decide +kernel
theorem dL_law_21 : decode cL_law 21 = .ok (.aload_n 0, 1) := by decide +kernel
theorem dL_law_22 : decode cL_law 22 = .ok (.iconst 1, 1) := by decide +kernel
theorem dL_law_23 : decode cL_law 23 = .ok (.invokestatic 75, 3) := by decide +kernel
theorem dL_law_26 : decode cL_law 26 = .ok (.iconst 0, 1) := by decide +kernel
theorem dL_law_27 : decode cL_law 27 = .ok (.iconst 2, 1) := by decide +kernel
theorem dL_law_28 : decode cL_law 28 = .ok (.invokestatic 50, 3) := by decide +kernel
theorem dL_law_31 : decode cL_law 31 = .ok (.ifCond .ne 8, 3) := by decide +kernel
theorem dL_law_34 : decode cL_law 34 = .ok (.bipush 7, 2) := by decide +kernel
theorem dL_law_36 : decode cL_law 36 = .ok (.goto 6, 3) := by decide +kernel
theorem dL_law_39 : decode cL_law 39 = .ok (.sipush 32003, 3) := by decide +kernel
theorem dL_law_42 : decode cL_law 42 = .ok (.invokevirtual 79, 3) := by decide +kernel
theorem dL_law_45 : decode cL_law 45 = .ok (.ifCond .eq 23, 3) := by decide +kernel
theorem dL_law_48 : decode cL_law 48 = .ok (.aload_n 1, 1) := by decide +kernel
theorem dL_law_49 : decode cL_law 49 = .ok (.iconst (-1), 1) := by decide +kernel
theorem dL_law_50 : decode cL_law 50 = .ok (.iconst 0, 1) := by decide +kernel
theorem dL_law_51 : decode cL_law 51 = .ok (.invokevirtual 83, 3) := by decide +kernel
theorem dL_law_54 : decode cL_law 54 = .ok (.iconst (-1), 1) := by decide +kernel
theorem dL_law_55 : decode cL_law 55 = .ok (.if_icmp .ne 13, 3) := by decide +kernel
theorem dL_law_58 : decode cL_law 58 = .ok (.aload_n 1, 1) := by decide +kernel
theorem dL_law_59 : decode cL_law 59 = .ok (.iconst 0, 1) := by decide +kernel
theorem dL_law_60 : decode cL_law 60 = .ok (.iconst 0, 1) := by decide +kernel
theorem dL_law_61 : decode cL_law 61 = .ok (.invokevirtual 87, 3) := by decide +kernel
theorem dL_law_64 : decode cL_law 64 = .ok (.iconst (-1), 1) := by decide +kernel
theorem dL_law_65 : decode cL_law 65 = .ok (.if_icmp .eq 5, 3) := by decide +kernel
theorem dL_law_68 : decode cL_law 68 = .ok (.iconst 0, 1) := by decide +kernel
theorem dL_law_69 : decode cL_law 69 = .ok (.ireturn, 1) := by decide +kernel
theorem dL_law_70 : decode cL_law 70 = .ok (.aload_n 0, 1) := by decide +kernel
theorem dL_law_71 : decode cL_law 71 = .ok (.iconst 2, 1) := by decide +kernel
theorem dL_law_72 : decode cL_law 72 = .ok (.invokestatic 75, 3) := by decide +kernel
theorem dL_law_75 : decode cL_law 75 = .ok (.istore_n 3, 1) := by decide +kernel
theorem dL_law_76 : decode cL_law 76 = .ok (.aload_n 1, 1) := by decide +kernel
theorem dL_law_77 : decode cL_law 77 = .ok (.iload_n 3, 1) := by decide +kernel
theorem dL_law_78 : decode cL_law 78 = .ok (.iconst 1, 1) := by decide +kernel
theorem dL_law_79 : decode cL_law 79 = .ok (.iconst 3, 1) := by decide +kernel
theorem dL_law_80 : decode cL_law 80 = .ok (.invokestatic 50, 3) := by decide +kernel
theorem dL_law_83 : decode cL_law 83 = .ok (.iload_n 3, 1) := by decide +kernel
theorem dL_law_84 : decode cL_law 84 = .ok (.iconst 3, 1) := by decide +kernel
theorem dL_law_85 : decode cL_law 85 = .ok (.ishr, 1) := by decide +kernel
theorem dL_law_86 : decode cL_law 86 = .ok (.iconst 1, 1) := by decide +kernel
theorem dL_law_87 : decode cL_law 87 = .ok (.iconst 3, 1) := by decide +kernel
theorem dL_law_88 : decode cL_law 88 = .ok (.invokestatic 50, 3) := by decide +kernel
theorem dL_law_91 : decode cL_law 91 = .ok (.iload_n 3, 1) := by decide +kernel
theorem dL_law_92 : decode cL_law 92 = .ok (.bipush 6, 2) := by decide +kernel
theorem dL_law_94 : decode cL_law 94 = .ok (.ishr, 1) := by decide +kernel
theorem dL_law_95 : decode cL_law 95 = .ok (.iconst 1, 1) := by decide +kernel
theorem dL_law_96 : decode cL_law 96 = .ok (.iconst 3, 1) := by decide +kernel
theorem dL_law_97 : decode cL_law 97 = .ok (.invokestatic 50, 3) := by decide +kernel
theorem dL_law_100 : decode cL_law 100 = .ok (.invokevirtual 90, 3) := by decide +kernel
theorem dL_law_103 : decode cL_law 103 = .ok (.ifCond .ne 5, 3) := by decide +kernel
theorem dL_law_106 : decode cL_law 106 = .ok (.iconst 0, 1) := by decide +kernel
theorem dL_law_107 : decode cL_law 107 = .ok (.ireturn, 1) := by decide +kernel
theorem dL_law_108 : decode cL_law 108 = .ok (.iconst 0, 1) := by decide +kernel
theorem dL_law_109 : decode cL_law 109 = .ok (.istore 4, 2) := by decide +kernel
theorem dL_law_111 : decode cL_law 111 = .ok (.iload 4, 2) := by decide +kernel
theorem dL_law_113 : decode cL_law 113 = .ok (.iconst 4, 1) := by decide +kernel
theorem dL_law_114 : decode cL_law 114 = .ok (.if_icmp .ge 89, 3) := by decide +kernel
theorem dL_law_117 : decode cL_law 117 = .ok (.aload_n 1, 1) := by decide +kernel
theorem dL_law_118 : decode cL_law 118 = .ok (.iload 4, 2) := by decide +kernel
theorem dL_law_120 : decode cL_law 120 = .ok (.aload_n 0, 1) := by decide +kernel
theorem dL_law_121 : decode cL_law 121 = .ok (.iconst 3, 1) := by decide +kernel
theorem dL_law_122 : decode cL_law 122 = .ok (.iconst 2, 1) := by decide +kernel
theorem dL_law_123 : decode cL_law 123 = .ok (.iload 4, 2) := by decide +kernel
theorem dL_law_125 : decode cL_law 125 = .ok (.imul, 1) := by decide +kernel
theorem dL_law_126 : decode cL_law 126 = .ok (.iadd, 1) := by decide +kernel
theorem dL_law_127 : decode cL_law 127 = .ok (.invokestatic 75, 3) := by decide +kernel
theorem dL_law_130 : decode cL_law 130 = .ok (.aload_n 0, 1) := by decide +kernel
theorem dL_law_131 : decode cL_law 131 = .ok (.iconst 4, 1) := by decide +kernel
theorem dL_law_132 : decode cL_law 132 = .ok (.iconst 2, 1) := by decide +kernel
theorem dL_law_133 : decode cL_law 133 = .ok (.iload 4, 2) := by decide +kernel
theorem dL_law_135 : decode cL_law 135 = .ok (.imul, 1) := by decide +kernel
theorem dL_law_136 : decode cL_law 136 = .ok (.iadd, 1) := by decide +kernel
theorem dL_law_137 : decode cL_law 137 = .ok (.invokestatic 75, 3) := by decide +kernel
theorem dL_law_140 : decode cL_law 140 = .ok (.iload_n 2, 1) := by decide +kernel
theorem dL_law_141 : decode cL_law 141 = .ok (.aload_n 0, 1) := by decide +kernel
theorem dL_law_142 : decode cL_law 142 = .ok (.iconst 3, 1) := by decide +kernel
theorem dL_law_143 : decode cL_law 143 = .ok (.iconst 2, 1) := by decide +kernel
theorem dL_law_144 : decode cL_law 144 = .ok (.iload 4, 2) := by decide +kernel
theorem dL_law_146 : decode cL_law 146 = .ok (.imul, 1) := by decide +kernel
theorem dL_law_147 : decode cL_law 147 = .ok (.iadd, 1) := by decide +kernel
theorem dL_law_148 : decode cL_law 148 = .ok (.invokestatic 75, 3) := by decide +kernel
theorem dL_law_151 : decode cL_law 151 = .ok (.bipush 20, 2) := by decide +kernel
theorem dL_law_153 : decode cL_law 153 = .ok (.ishr, 1) := by decide +kernel
theorem dL_law_154 : decode cL_law 154 = .ok (.iconst 1, 1) := by decide +kernel
theorem dL_law_155 : decode cL_law 155 = .ok (.iconst 4, 1) := by decide +kernel
theorem dL_law_156 : decode cL_law 156 = .ok (.invokestatic 50, 3) := by decide +kernel
theorem dL_law_159 : decode cL_law 159 = .ok (.iload 4, 2) := by decide +kernel
theorem dL_law_161 : decode cL_law 161 = .ok (.ifCond .ne 7, 3) := by decide +kernel
theorem dL_law_164 : decode cL_law 164 = .ok (.iconst 1, 1) := by decide +kernel
theorem dL_law_165 : decode cL_law 165 = .ok (.goto 21, 3) := by decide +kernel
theorem dL_law_168 : decode cL_law 168 = .ok (.aload_n 0, 1) := by decide +kernel
theorem dL_law_169 : decode cL_law 169 = .ok (.iconst 4, 1) := by decide +kernel
theorem dL_law_170 : decode cL_law 170 = .ok (.iconst 2, 1) := by decide +kernel
theorem dL_law_171 : decode cL_law 171 = .ok (.iload 4, 2) := by decide +kernel
theorem dL_law_173 : decode cL_law 173 = .ok (.imul, 1) := by decide +kernel
theorem dL_law_174 : decode cL_law 174 = .ok (.iadd, 1) := by decide +kernel
theorem dL_law_175 : decode cL_law 175 = .ok (.invokestatic 75, 3) := by decide +kernel
theorem dL_law_178 : decode cL_law 178 = .ok (.bipush 20, 2) := by decide +kernel
theorem dL_law_180 : decode cL_law 180 = .ok (.ishr, 1) := by decide +kernel
theorem dL_law_181 : decode cL_law 181 = .ok (.iconst 0, 1) := by decide +kernel
theorem dL_law_182 : decode cL_law 182 = .ok (.iconst 3, 1) := by decide +kernel
theorem dL_law_183 : decode cL_law 183 = .ok (.invokestatic 50, 3) := by decide +kernel
theorem dL_law_186 : decode cL_law 186 = .ok (.invokestatic 94, 3) := by decide +kernel
theorem dL_law_189 : decode cL_law 189 = .ok (.invokestatic 98, 3) := by decide +kernel
theorem dL_law_192 : decode cL_law 192 = .ok (.ifCond .ge 5, 3) := by decide +kernel
theorem dL_law_195 : decode cL_law 195 = .ok (.iconst 0, 1) := by decide +kernel
theorem dL_law_196 : decode cL_law 196 = .ok (.ireturn, 1) := by decide +kernel
theorem dL_law_197 : decode cL_law 197 = .ok (.iinc 4 1, 3) := by decide +kernel
theorem dL_law_200 : decode cL_law 200 = .ok (.goto (-89), 3) := by decide +kernel
theorem dL_law_203 : decode cL_law 203 = .ok (.iconst 0, 1) := by decide +kernel
theorem dL_law_204 : decode cL_law 204 = .ok (.istore 4, 2) := by decide +kernel
theorem dL_law_206 : decode cL_law 206 = .ok (.iload 4, 2) := by decide +kernel
theorem dL_law_208 : decode cL_law 208 = .ok (.iconst 5, 1) := by decide +kernel
theorem dL_law_209 : decode cL_law 209 = .ok (.if_icmp .ge 209, 3) := by decide +kernel
theorem dL_law_212 : decode cL_law 212 = .ok (.aload_n 0, 1) := by decide +kernel
theorem dL_law_213 : decode cL_law 213 = .ok (.bipush 11, 2) := by decide +kernel
theorem dL_law_215 : decode cL_law 215 = .ok (.iload 4, 2) := by decide +kernel
theorem dL_law_217 : decode cL_law 217 = .ok (.iadd, 1) := by decide +kernel
theorem dL_law_218 : decode cL_law 218 = .ok (.invokestatic 75, 3) := by decide +kernel
theorem dL_law_221 : decode cL_law 221 = .ok (.iconst 0, 1) := by decide +kernel
theorem dL_law_222 : decode cL_law 222 = .ok (.bipush 7, 2) := by decide +kernel
theorem dL_law_224 : decode cL_law 224 = .ok (.invokestatic 50, 3) := by decide +kernel
theorem dL_law_227 : decode cL_law 227 = .ok (.iconst 1, 1) := by decide +kernel
theorem dL_law_228 : decode cL_law 228 = .ok (.ishl, 1) := by decide +kernel
theorem dL_law_229 : decode cL_law 229 = .ok (.istore 5, 2) := by decide +kernel
theorem dL_law_231 : decode cL_law 231 = .ok (.aload_n 1, 1) := by decide +kernel
theorem dL_law_232 : decode cL_law 232 = .ok (.iconst 0, 1) := by decide +kernel
theorem dL_law_233 : decode cL_law 233 = .ok (.iload 5, 2) := by decide +kernel
theorem dL_law_235 : decode cL_law 235 = .ok (.invokevirtual 101, 3) := by decide +kernel
theorem dL_law_238 : decode cL_law 238 = .ok (.istore 6, 2) := by decide +kernel
theorem dL_law_240 : decode cL_law 240 = .ok (.iload 6, 2) := by decide +kernel
theorem dL_law_242 : decode cL_law 242 = .ok (.bipush (-2), 2) := by decide +kernel
theorem dL_law_244 : decode cL_law 244 = .ok (.if_icmp .ne 24, 3) := by decide +kernel
theorem dL_law_247 : decode cL_law 247 = .ok (.aload_n 1, 1) := by decide +kernel
theorem dL_law_248 : decode cL_law 248 = .ok (.bipush 8, 2) := by decide +kernel
theorem dL_law_250 : decode cL_law 250 = .ok (.invokevirtual 104, 3) := by decide +kernel
theorem dL_law_253 : decode cL_law 253 = .ok (.ifCond .ne 13, 3) := by decide +kernel
theorem dL_law_256 : decode cL_law 256 = .ok (.aload_n 1, 1) := by decide +kernel
theorem dL_law_257 : decode cL_law 257 = .ok (.iconst (-1), 1) := by decide +kernel
theorem dL_law_258 : decode cL_law 258 = .ok (.iconst 0, 1) := by decide +kernel
theorem dL_law_259 : decode cL_law 259 = .ok (.invokevirtual 83, 3) := by decide +kernel
theorem dL_law_262 : decode cL_law 262 = .ok (.iconst (-1), 1) := by decide +kernel
theorem dL_law_263 : decode cL_law 263 = .ok (.if_icmp .eq 149, 3) := by decide +kernel
theorem dL_law_266 : decode cL_law 266 = .ok (.iconst 0, 1) := by decide +kernel
theorem dL_law_267 : decode cL_law 267 = .ok (.ireturn, 1) := by decide +kernel
theorem dL_law_268 : decode cL_law 268 = .ok (.iload 6, 2) := by decide +kernel
theorem dL_law_270 : decode cL_law 270 = .ok (.ifCond .lt 50, 3) := by decide +kernel
theorem dL_law_273 : decode cL_law 273 = .ok (.iload 6, 2) := by decide +kernel
theorem dL_law_275 : decode cL_law 275 = .ok (.bipush 40, 2) := by decide +kernel
theorem dL_law_277 : decode cL_law 277 = .ok (.if_icmp .gt 43, 3) := by decide +kernel
theorem dL_law_280 : decode cL_law 280 = .ok (.aload_n 1, 1) := by decide +kernel
theorem dL_law_281 : decode cL_law 281 = .ok (.bipush 8, 2) := by decide +kernel
theorem dL_law_283 : decode cL_law 283 = .ok (.invokevirtual 104, 3) := by decide +kernel
theorem dL_law_286 : decode cL_law 286 = .ok (.iconst 1, 1) := by decide +kernel
theorem dL_law_287 : decode cL_law 287 = .ok (.if_icmp .ne 33, 3) := by decide +kernel
theorem dL_law_290 : decode cL_law 290 = .ok (.aload_n 1, 1) := by decide +kernel
theorem dL_law_291 : decode cL_law 291 = .ok (.iconst (-1), 1) := by decide +kernel
theorem dL_law_292 : decode cL_law 292 = .ok (.iconst 0, 1) := by decide +kernel
theorem dL_law_293 : decode cL_law 293 = .ok (.invokevirtual 83, 3) := by decide +kernel
theorem dL_law_296 : decode cL_law 296 = .ok (.iload 6, 2) := by decide +kernel
theorem dL_law_298 : decode cL_law 298 = .ok (.if_icmp .ne 22, 3) := by decide +kernel
theorem dL_law_301 : decode cL_law 301 = .ok (.aload_n 1, 1) := by decide +kernel
theorem dL_law_302 : decode cL_law 302 = .ok (.iconst (-1), 1) := by decide +kernel
theorem dL_law_303 : decode cL_law 303 = .ok (.iconst 2, 1) := by decide +kernel
theorem dL_law_304 : decode cL_law 304 = .ok (.invokevirtual 83, 3) := by decide +kernel
theorem dL_law_307 : decode cL_law 307 = .ok (.iconst 1, 1) := by decide +kernel
theorem dL_law_308 : decode cL_law 308 = .ok (.if_icmp .ne 12, 3) := by decide +kernel
theorem dL_law_311 : decode cL_law 311 = .ok (.aload_n 1, 1) := by decide +kernel
theorem dL_law_312 : decode cL_law 312 = .ok (.iload 6, 2) := by decide +kernel
theorem dL_law_314 : decode cL_law 314 = .ok (.invokestatic 107, 3) := by decide +kernel
theorem dL_law_317 : decode cL_law 317 = .ok (.ifCond .ne 5, 3) := by decide +kernel
theorem dL_law_320 : decode cL_law 320 = .ok (.iconst 0, 1) := by decide +kernel
theorem dL_law_321 : decode cL_law 321 = .ok (.ireturn, 1) := by decide +kernel
theorem dL_law_322 : decode cL_law 322 = .ok (.aload_n 1, 1) := by decide +kernel
theorem dL_law_323 : decode cL_law 323 = .ok (.iconst 1, 1) := by decide +kernel
theorem dL_law_324 : decode cL_law 324 = .ok (.iconst 5, 1) := by decide +kernel
theorem dL_law_325 : decode cL_law 325 = .ok (.invokevirtual 87, 3) := by decide +kernel
theorem dL_law_328 : decode cL_law 328 = .ok (.iconst 1, 1) := by decide +kernel
theorem dL_law_329 : decode cL_law 329 = .ok (.if_icmp .lt 24, 3) := by decide +kernel
theorem dL_law_332 : decode cL_law 332 = .ok (.aload_n 1, 1) := by decide +kernel
theorem dL_law_333 : decode cL_law 333 = .ok (.iconst 5, 1) := by decide +kernel
theorem dL_law_334 : decode cL_law 334 = .ok (.iconst 4, 1) := by decide +kernel
theorem dL_law_335 : decode cL_law 335 = .ok (.invokevirtual 111, 3) := by decide +kernel
theorem dL_law_338 : decode cL_law 338 = .ok (.iconst 1, 1) := by decide +kernel
theorem dL_law_339 : decode cL_law 339 = .ok (.if_icmp .ne 14, 3) := by decide +kernel
theorem dL_law_342 : decode cL_law 342 = .ok (.aload_n 1, 1) := by decide +kernel
theorem dL_law_343 : decode cL_law 343 = .ok (.iconst 5, 1) := by decide +kernel
theorem dL_law_344 : decode cL_law 344 = .ok (.iconst 0, 1) := by decide +kernel
theorem dL_law_345 : decode cL_law 345 = .ok (.iconst 0, 1) := by decide +kernel
theorem dL_law_346 : decode cL_law 346 = .ok (.invokevirtual 114, 3) := by decide +kernel
theorem dL_law_349 : decode cL_law 349 = .ok (.iconst 1, 1) := by decide +kernel
theorem dL_law_350 : decode cL_law 350 = .ok (.if_icmp .eq 5, 3) := by decide +kernel
theorem dL_law_353 : decode cL_law 353 = .ok (.iconst 0, 1) := by decide +kernel
theorem dL_law_354 : decode cL_law 354 = .ok (.ireturn, 1) := by decide +kernel
theorem dL_law_355 : decode cL_law 355 = .ok (.aload_n 1, 1) := by decide +kernel
theorem dL_law_356 : decode cL_law 356 = .ok (.iload 5, 2) := by decide +kernel
theorem dL_law_358 : decode cL_law 358 = .ok (.invokestatic 117, 3) := by decide +kernel
theorem dL_law_361 : decode cL_law 361 = .ok (.ifCond .eq 12, 3) := by decide +kernel
theorem dL_law_364 : decode cL_law 364 = .ok (.aload_n 1, 1) := by decide +kernel
theorem dL_law_365 : decode cL_law 365 = .ok (.iload 5, 2) := by decide +kernel
theorem dL_law_367 : decode cL_law 367 = .ok (.invokestatic 120, 3) := by decide +kernel
theorem dL_law_370 : decode cL_law 370 = .ok (.ifCond .ne 5, 3) := by decide +kernel
theorem dL_law_373 : decode cL_law 373 = .ok (.iconst 0, 1) := by decide +kernel
theorem dL_law_374 : decode cL_law 374 = .ok (.ireturn, 1) := by decide +kernel
theorem dL_law_375 : decode cL_law 375 = .ok (.aload_n 1, 1) := by decide +kernel
theorem dL_law_376 : decode cL_law 376 = .ok (.iconst 5, 1) := by decide +kernel
theorem dL_law_377 : decode cL_law 377 = .ok (.invokevirtual 104, 3) := by decide +kernel
theorem dL_law_380 : decode cL_law 380 = .ok (.istore 7, 2) := by decide +kernel
theorem dL_law_382 : decode cL_law 382 = .ok (.aload_n 0, 1) := by decide +kernel
theorem dL_law_383 : decode cL_law 383 = .ok (.bipush 16, 2) := by decide +kernel
theorem dL_law_385 : decode cL_law 385 = .ok (.iload 4, 2) := by decide +kernel
theorem dL_law_387 : decode cL_law 387 = .ok (.iadd, 1) := by decide +kernel
theorem dL_law_388 : decode cL_law 388 = .ok (.invokestatic 75, 3) := by decide +kernel
theorem dL_law_391 : decode cL_law 391 = .ok (.iconst 1, 1) := by decide +kernel
theorem dL_law_392 : decode cL_law 392 = .ok (.iload 7, 2) := by decide +kernel
theorem dL_law_394 : decode cL_law 394 = .ok (.invokestatic 50, 3) := by decide +kernel
theorem dL_law_397 : decode cL_law 397 = .ok (.istore 8, 2) := by decide +kernel
theorem dL_law_399 : decode cL_law 399 = .ok (.aload_n 1, 1) := by decide +kernel
theorem dL_law_400 : decode cL_law 400 = .ok (.iload 5, 2) := by decide +kernel
theorem dL_law_402 : decode cL_law 402 = .ok (.iload 8, 2) := by decide +kernel
theorem dL_law_404 : decode cL_law 404 = .ok (.invokestatic 123, 3) := by decide +kernel
theorem dL_law_407 : decode cL_law 407 = .ok (.ifCond .ne 5, 3) := by decide +kernel
theorem dL_law_410 : decode cL_law 410 = .ok (.iconst 0, 1) := by decide +kernel
theorem dL_law_411 : decode cL_law 411 = .ok (.ireturn, 1) := by decide +kernel
theorem dL_law_412 : decode cL_law 412 = .ok (.iinc 4 1, 3) := by decide +kernel
theorem dL_law_415 : decode cL_law 415 = .ok (.goto (-209), 3) := by decide +kernel
theorem dL_law_418 : decode cL_law 418 = .ok (.aload_n 1, 1) := by decide +kernel
theorem dL_law_419 : decode cL_law 419 = .ok (.bipush 8, 2) := by decide +kernel
theorem dL_law_421 : decode cL_law 421 = .ok (.iconst 1, 1) := by decide +kernel
theorem dL_law_422 : decode cL_law 422 = .ok (.invokevirtual 101, 3) := by decide +kernel
theorem dL_law_425 : decode cL_law 425 = .ok (.iconst (-1), 1) := by decide +kernel
theorem dL_law_426 : decode cL_law 426 = .ok (.if_icmp .ne 28, 3) := by decide +kernel
theorem dL_law_429 : decode cL_law 429 = .ok (.aload_n 1, 1) := by decide +kernel
theorem dL_law_430 : decode cL_law 430 = .ok (.iconst 0, 1) := by decide +kernel
theorem dL_law_431 : decode cL_law 431 = .ok (.sipush 256, 3) := by decide +kernel
theorem dL_law_434 : decode cL_law 434 = .ok (.invokevirtual 101, 3) := by decide +kernel
theorem dL_law_437 : decode cL_law 437 = .ok (.iconst (-1), 1) := by decide +kernel
theorem dL_law_438 : decode cL_law 438 = .ok (.if_icmp .ne 16, 3) := by decide +kernel
theorem dL_law_441 : decode cL_law 441 = .ok (.aload_n 1, 1) := by decide +kernel
theorem dL_law_442 : decode cL_law 442 = .ok (.bipush 8, 2) := by decide +kernel
theorem dL_law_444 : decode cL_law 444 = .ok (.invokevirtual 104, 3) := by decide +kernel
theorem dL_law_447 : decode cL_law 447 = .ok (.ifCond .lt 7, 3) := by decide +kernel
theorem dL_law_450 : decode cL_law 450 = .ok (.iconst 1, 1) := by decide +kernel
theorem dL_law_451 : decode cL_law 451 = .ok (.goto 4, 3) := by decide +kernel
theorem dL_law_454 : decode cL_law 454 = .ok (.iconst 0, 1) := by decide +kernel
theorem dL_law_455 : decode cL_law 455 = .ok (.ireturn, 1) := by decide +kernel
theorem dL_isStepped_0 : decode cL_isStepped 0 = .ok (.iconst 0, 1) := by decide +kernel
theorem dL_isStepped_1 : decode cL_isStepped 1 = .ok (.istore_n 2, 1) := by decide +kernel
theorem dL_isStepped_2 : decode cL_isStepped 2 = .ok (.iconst (-1), 1) := by decide +kernel
theorem dL_isStepped_3 : decode cL_isStepped 3 = .ok (.istore_n 3, 1) := by decide +kernel
theorem dL_isStepped_4 : decode cL_isStepped 4 = .ok (.iconst 0, 1) := by decide +kernel
theorem dL_isStepped_5 : decode cL_isStepped 5 = .ok (.istore 4, 2) := by decide +kernel
theorem dL_isStepped_7 : decode cL_isStepped 7 = .ok (.iload 4, 2) := by decide +kernel
theorem dL_isStepped_9 : decode cL_isStepped 9 = .ok (.iload_n 1, 1) := by decide +kernel
theorem dL_isStepped_10 : decode cL_isStepped 10 = .ok (.if_icmp .ge 81, 3) := by decide +kernel
theorem dL_isStepped_13 : decode cL_isStepped 13 = .ok (.aload_n 0, 1) := by decide +kernel
theorem dL_isStepped_14 : decode cL_isStepped 14 = .ok (.iload 4, 2) := by decide +kernel
theorem dL_isStepped_16 : decode cL_isStepped 16 = .ok (.iconst 1, 1) := by decide +kernel
theorem dL_isStepped_17 : decode cL_isStepped 17 = .ok (.invokevirtual 83, 3) := by decide +kernel
theorem dL_isStepped_20 : decode cL_isStepped 20 = .ok (.aload_n 0, 1) := by decide +kernel
theorem dL_isStepped_21 : decode cL_isStepped 21 = .ok (.iload 4, 2) := by decide +kernel
theorem dL_isStepped_23 : decode cL_isStepped 23 = .ok (.iconst 2, 1) := by decide +kernel
theorem dL_isStepped_24 : decode cL_isStepped 24 = .ok (.invokevirtual 83, 3) := by decide +kernel
theorem dL_isStepped_27 : decode cL_isStepped 27 = .ok (.if_icmp .le 7, 3) := by decide +kernel
theorem dL_isStepped_30 : decode cL_isStepped 30 = .ok (.iconst 1, 1) := by decide +kernel
theorem dL_isStepped_31 : decode cL_isStepped 31 = .ok (.goto 4, 3) := by decide +kernel
theorem dL_isStepped_34 : decode cL_isStepped 34 = .ok (.iconst 0, 1) := by decide +kernel
theorem dL_isStepped_35 : decode cL_isStepped 35 = .ok (.aload_n 0, 1) := by decide +kernel
theorem dL_isStepped_36 : decode cL_isStepped 36 = .ok (.iload 4, 2) := by decide +kernel
theorem dL_isStepped_38 : decode cL_isStepped 38 = .ok (.iconst 3, 1) := by decide +kernel
theorem dL_isStepped_39 : decode cL_isStepped 39 = .ok (.invokevirtual 83, 3) := by decide +kernel
theorem dL_isStepped_42 : decode cL_isStepped 42 = .ok (.iconst 1, 1) := by decide +kernel
theorem dL_isStepped_43 : decode cL_isStepped 43 = .ok (.if_icmp .ne 7, 3) := by decide +kernel
theorem dL_isStepped_46 : decode cL_isStepped 46 = .ok (.iconst 1, 1) := by decide +kernel
theorem dL_isStepped_47 : decode cL_isStepped 47 = .ok (.goto 4, 3) := by decide +kernel
theorem dL_isStepped_50 : decode cL_isStepped 50 = .ok (.iconst 0, 1) := by decide +kernel
theorem dL_isStepped_51 : decode cL_isStepped 51 = .ok (.if_icmp .ne 14, 3) := by decide +kernel
theorem dL_isStepped_54 : decode cL_isStepped 54 = .ok (.aload_n 0, 1) := by decide +kernel
theorem dL_isStepped_55 : decode cL_isStepped 55 = .ok (.iload 4, 2) := by decide +kernel
theorem dL_isStepped_57 : decode cL_isStepped 57 = .ok (.iconst 4, 1) := by decide +kernel
theorem dL_isStepped_58 : decode cL_isStepped 58 = .ok (.invokevirtual 83, 3) := by decide +kernel
theorem dL_isStepped_61 : decode cL_isStepped 61 = .ok (.iload_n 3, 1) := by decide +kernel
theorem dL_isStepped_62 : decode cL_isStepped 62 = .ok (.if_icmp .ge 5, 3) := by decide +kernel
theorem dL_isStepped_65 : decode cL_isStepped 65 = .ok (.iconst 0, 1) := by decide +kernel
theorem dL_isStepped_66 : decode cL_isStepped 66 = .ok (.ireturn, 1) := by decide +kernel
theorem dL_isStepped_67 : decode cL_isStepped 67 = .ok (.iload_n 2, 1) := by decide +kernel
theorem dL_isStepped_68 : decode cL_isStepped 68 = .ok (.aload_n 0, 1) := by decide +kernel
theorem dL_isStepped_69 : decode cL_isStepped 69 = .ok (.iload 4, 2) := by decide +kernel
theorem dL_isStepped_71 : decode cL_isStepped 71 = .ok (.iconst 3, 1) := by decide +kernel
theorem dL_isStepped_72 : decode cL_isStepped 72 = .ok (.invokevirtual 83, 3) := by decide +kernel
theorem dL_isStepped_75 : decode cL_isStepped 75 = .ok (.iadd, 1) := by decide +kernel
theorem dL_isStepped_76 : decode cL_isStepped 76 = .ok (.istore_n 2, 1) := by decide +kernel
theorem dL_isStepped_77 : decode cL_isStepped 77 = .ok (.aload_n 0, 1) := by decide +kernel
theorem dL_isStepped_78 : decode cL_isStepped 78 = .ok (.iload 4, 2) := by decide +kernel
theorem dL_isStepped_80 : decode cL_isStepped 80 = .ok (.iconst 4, 1) := by decide +kernel
theorem dL_isStepped_81 : decode cL_isStepped 81 = .ok (.invokevirtual 83, 3) := by decide +kernel
theorem dL_isStepped_84 : decode cL_isStepped 84 = .ok (.istore_n 3, 1) := by decide +kernel
theorem dL_isStepped_85 : decode cL_isStepped 85 = .ok (.iinc 4 1, 3) := by decide +kernel
theorem dL_isStepped_88 : decode cL_isStepped 88 = .ok (.goto (-81), 3) := by decide +kernel
theorem dL_isStepped_91 : decode cL_isStepped 91 = .ok (.iload_n 2, 1) := by decide +kernel
theorem dL_isStepped_92 : decode cL_isStepped 92 = .ok (.aload_n 0, 1) := by decide +kernel
theorem dL_isStepped_93 : decode cL_isStepped 93 = .ok (.bipush 9, 2) := by decide +kernel
theorem dL_isStepped_95 : decode cL_isStepped 95 = .ok (.invokevirtual 104, 3) := by decide +kernel
theorem dL_isStepped_98 : decode cL_isStepped 98 = .ok (.invokestatic 127, 3) := by decide +kernel
theorem dL_isStepped_101 : decode cL_isStepped 101 = .ok (.iadd, 1) := by decide +kernel
theorem dL_isStepped_102 : decode cL_isStepped 102 = .ok (.aload_n 0, 1) := by decide +kernel
theorem dL_isStepped_103 : decode cL_isStepped 103 = .ok (.iconst (-1), 1) := by decide +kernel
theorem dL_isStepped_104 : decode cL_isStepped 104 = .ok (.iconst 1, 1) := by decide +kernel
theorem dL_isStepped_105 : decode cL_isStepped 105 = .ok (.invokevirtual 83, 3) := by decide +kernel
theorem dL_isStepped_108 : decode cL_isStepped 108 = .ok (.if_icmp .ne 17, 3) := by decide +kernel
theorem dL_isStepped_111 : decode cL_isStepped 111 = .ok (.aload_n 0, 1) := by decide +kernel
theorem dL_isStepped_112 : decode cL_isStepped 112 = .ok (.iload_n 1, 1) := by decide +kernel
theorem dL_isStepped_113 : decode cL_isStepped 113 = .ok (.iconst 0, 1) := by decide +kernel
theorem dL_isStepped_114 : decode cL_isStepped 114 = .ok (.invokevirtual 83, 3) := by decide +kernel
theorem dL_isStepped_117 : decode cL_isStepped 117 = .ok (.iconst (-1), 1) := by decide +kernel
theorem dL_isStepped_118 : decode cL_isStepped 118 = .ok (.if_icmp .ne 7, 3) := by decide +kernel
theorem dL_isStepped_121 : decode cL_isStepped 121 = .ok (.iconst 1, 1) := by decide +kernel
theorem dL_isStepped_122 : decode cL_isStepped 122 = .ok (.goto 4, 3) := by decide +kernel
theorem dL_isStepped_125 : decode cL_isStepped 125 = .ok (.iconst 0, 1) := by decide +kernel
theorem dL_isStepped_126 : decode cL_isStepped 126 = .ok (.ireturn, 1) := by decide +kernel
theorem dL_isWhole_0 : decode cL_isWhole 0 = .ok (.aload_n 0, 1) := by decide +kernel
theorem dL_isWhole_1 : decode cL_isWhole 1 = .ok (.bipush 9, 2) := by decide +kernel
theorem dL_isWhole_3 : decode cL_isWhole 3 = .ok (.invokevirtual 104, 3) := by decide +kernel
theorem dL_isWhole_6 : decode cL_isWhole 6 = .ok (.istore_n 2, 1) := by decide +kernel
theorem dL_isWhole_7 : decode cL_isWhole 7 = .ok (.aload_n 0, 1) := by decide +kernel
theorem dL_isWhole_8 : decode cL_isWhole 8 = .ok (.iconst 1, 1) := by decide +kernel
theorem dL_isWhole_9 : decode cL_isWhole 9 = .ok (.iconst 5, 1) := by decide +kernel
theorem dL_isWhole_10 : decode cL_isWhole 10 = .ok (.invokevirtual 87, 3) := by decide +kernel
theorem dL_isWhole_13 : decode cL_isWhole 13 = .ok (.pop, 1) := by decide +kernel
theorem dL_isWhole_14 : decode cL_isWhole 14 = .ok (.aload_n 0, 1) := by decide +kernel
theorem dL_isWhole_15 : decode cL_isWhole 15 = .ok (.iconst 2, 1) := by decide +kernel
theorem dL_isWhole_16 : decode cL_isWhole 16 = .ok (.iconst 5, 1) := by decide +kernel
theorem dL_isWhole_17 : decode cL_isWhole 17 = .ok (.iconst 0, 1) := by decide +kernel
theorem dL_isWhole_18 : decode cL_isWhole 18 = .ok (.iconst 5, 1) := by decide +kernel
theorem dL_isWhole_19 : decode cL_isWhole 19 = .ok (.invokevirtual 132, 3) := by decide +kernel
theorem dL_isWhole_22 : decode cL_isWhole 22 = .ok (.ifCond .ge 5, 3) := by decide +kernel
theorem dL_isWhole_25 : decode cL_isWhole 25 = .ok (.iconst 1, 1) := by decide +kernel
theorem dL_isWhole_26 : decode cL_isWhole 26 = .ok (.ireturn, 1) := by decide +kernel
theorem dL_isWhole_27 : decode cL_isWhole 27 = .ok (.iconst 1, 1) := by decide +kernel
theorem dL_isWhole_28 : decode cL_isWhole 28 = .ok (.istore_n 3, 1) := by decide +kernel
theorem dL_isWhole_29 : decode cL_isWhole 29 = .ok (.iload_n 3, 1) := by decide +kernel
theorem dL_isWhole_30 : decode cL_isWhole 30 = .ok (.iconst 4, 1) := by decide +kernel
theorem dL_isWhole_31 : decode cL_isWhole 31 = .ok (.if_icmp .ge 73, 3) := by decide +kernel
theorem dL_isWhole_34 : decode cL_isWhole 34 = .ok (.iload_n 2, 1) := by decide +kernel
theorem dL_isWhole_35 : decode cL_isWhole 35 = .ok (.iload_n 3, 1) := by decide +kernel
theorem dL_isWhole_36 : decode cL_isWhole 36 = .ok (.ishr, 1) := by decide +kernel
theorem dL_isWhole_37 : decode cL_isWhole 37 = .ok (.iconst 1, 1) := by decide +kernel
theorem dL_isWhole_38 : decode cL_isWhole 38 = .ok (.iand, 1) := by decide +kernel
theorem dL_isWhole_39 : decode cL_isWhole 39 = .ok (.ifCond .ne 18, 3) := by decide +kernel
theorem dL_isWhole_42 : decode cL_isWhole 42 = .ok (.aload_n 0, 1) := by decide +kernel
theorem dL_isWhole_43 : decode cL_isWhole 43 = .ok (.iconst 2, 1) := by decide +kernel
theorem dL_isWhole_44 : decode cL_isWhole 44 = .ok (.iload_n 3, 1) := by decide +kernel
theorem dL_isWhole_45 : decode cL_isWhole 45 = .ok (.iadd, 1) := by decide +kernel
theorem dL_isWhole_46 : decode cL_isWhole 46 = .ok (.bipush 6, 2) := by decide +kernel
theorem dL_isWhole_48 : decode cL_isWhole 48 = .ok (.invokevirtual 87, 3) := by decide +kernel
theorem dL_isWhole_51 : decode cL_isWhole 51 = .ok (.iconst (-1), 1) := by decide +kernel
theorem dL_isWhole_52 : decode cL_isWhole 52 = .ok (.if_icmp .eq 46, 3) := by decide +kernel
theorem dL_isWhole_55 : decode cL_isWhole 55 = .ok (.iconst 0, 1) := by decide +kernel
theorem dL_isWhole_56 : decode cL_isWhole 56 = .ok (.ireturn, 1) := by decide +kernel
theorem dL_isWhole_57 : decode cL_isWhole 57 = .ok (.aload_n 0, 1) := by decide +kernel
theorem dL_isWhole_58 : decode cL_isWhole 58 = .ok (.iconst 2, 1) := by decide +kernel
theorem dL_isWhole_59 : decode cL_isWhole 59 = .ok (.iload_n 3, 1) := by decide +kernel
theorem dL_isWhole_60 : decode cL_isWhole 60 = .ok (.iadd, 1) := by decide +kernel
theorem dL_isWhole_61 : decode cL_isWhole 61 = .ok (.bipush 6, 2) := by decide +kernel
theorem dL_isWhole_63 : decode cL_isWhole 63 = .ok (.invokevirtual 87, 3) := by decide +kernel
theorem dL_isWhole_66 : decode cL_isWhole 66 = .ok (.ifCond .ge 5, 3) := by decide +kernel
theorem dL_isWhole_69 : decode cL_isWhole 69 = .ok (.iconst 0, 1) := by decide +kernel
theorem dL_isWhole_70 : decode cL_isWhole 70 = .ok (.ireturn, 1) := by decide +kernel
theorem dL_isWhole_71 : decode cL_isWhole 71 = .ok (.aload_n 0, 1) := by decide +kernel
theorem dL_isWhole_72 : decode cL_isWhole 72 = .ok (.iconst 2, 1) := by decide +kernel
theorem dL_isWhole_73 : decode cL_isWhole 73 = .ok (.bipush 6, 2) := by decide +kernel
theorem dL_isWhole_75 : decode cL_isWhole 75 = .ok (.iload_n 3, 1) := by decide +kernel
theorem dL_isWhole_76 : decode cL_isWhole 76 = .ok (.bipush 6, 2) := by decide +kernel
theorem dL_isWhole_78 : decode cL_isWhole 78 = .ok (.invokevirtual 132, 3) := by decide +kernel
theorem dL_isWhole_81 : decode cL_isWhole 81 = .ok (.ifCond .lt 15, 3) := by decide +kernel
theorem dL_isWhole_84 : decode cL_isWhole 84 = .ok (.aload_n 0, 1) := by decide +kernel
theorem dL_isWhole_85 : decode cL_isWhole 85 = .ok (.iconst 1, 1) := by decide +kernel
theorem dL_isWhole_86 : decode cL_isWhole 86 = .ok (.iconst 5, 1) := by decide +kernel
theorem dL_isWhole_87 : decode cL_isWhole 87 = .ok (.bipush 6, 2) := by decide +kernel
theorem dL_isWhole_89 : decode cL_isWhole 89 = .ok (.iconst 5, 1) := by decide +kernel
theorem dL_isWhole_90 : decode cL_isWhole 90 = .ok (.invokevirtual 132, 3) := by decide +kernel
theorem dL_isWhole_93 : decode cL_isWhole 93 = .ok (.ifCond .ge 5, 3) := by decide +kernel
theorem dL_isWhole_96 : decode cL_isWhole 96 = .ok (.iconst 1, 1) := by decide +kernel
theorem dL_isWhole_97 : decode cL_isWhole 97 = .ok (.ireturn, 1) := by decide +kernel
theorem dL_isWhole_98 : decode cL_isWhole 98 = .ok (.iinc 3 1, 3) := by decide +kernel
theorem dL_isWhole_101 : decode cL_isWhole 101 = .ok (.goto (-72), 3) := by decide +kernel
theorem dL_isWhole_104 : decode cL_isWhole 104 = .ok (.aload_n 0, 1) := by decide +kernel
theorem dL_isWhole_105 : decode cL_isWhole 105 = .ok (.iconst 2, 1) := by decide +kernel
theorem dL_isWhole_106 : decode cL_isWhole 106 = .ok (.bipush 6, 2) := by decide +kernel
theorem dL_isWhole_108 : decode cL_isWhole 108 = .ok (.invokevirtual 87, 3) := by decide +kernel
theorem dL_isWhole_111 : decode cL_isWhole 111 = .ok (.iconst (-1), 1) := by decide +kernel
theorem dL_isWhole_112 : decode cL_isWhole 112 = .ok (.if_icmp .ne 15, 3) := by decide +kernel
theorem dL_isWhole_115 : decode cL_isWhole 115 = .ok (.aload_n 0, 1) := by decide +kernel
theorem dL_isWhole_116 : decode cL_isWhole 116 = .ok (.bipush 10, 2) := by decide +kernel
theorem dL_isWhole_118 : decode cL_isWhole 118 = .ok (.bipush 6, 2) := by decide +kernel
theorem dL_isWhole_120 : decode cL_isWhole 120 = .ok (.invokevirtual 87, 3) := by decide +kernel
theorem dL_isWhole_123 : decode cL_isWhole 123 = .ok (.iconst (-1), 1) := by decide +kernel
theorem dL_isWhole_124 : decode cL_isWhole 124 = .ok (.if_icmp .eq 5, 3) := by decide +kernel
theorem dL_isWhole_127 : decode cL_isWhole 127 = .ok (.iconst 0, 1) := by decide +kernel
theorem dL_isWhole_128 : decode cL_isWhole 128 = .ok (.ireturn, 1) := by decide +kernel
theorem dL_isWhole_129 : decode cL_isWhole 129 = .ok (.aload_n 0, 1) := by decide +kernel
theorem dL_isWhole_130 : decode cL_isWhole 130 = .ok (.iconst 0, 1) := by decide +kernel
theorem dL_isWhole_131 : decode cL_isWhole 131 = .ok (.bipush 6, 2) := by decide +kernel
theorem dL_isWhole_133 : decode cL_isWhole 133 = .ok (.invokevirtual 87, 3) := by decide +kernel
theorem dL_isWhole_136 : decode cL_isWhole 136 = .ok (.pop, 1) := by decide +kernel
theorem dL_isWhole_137 : decode cL_isWhole 137 = .ok (.aload_n 0, 1) := by decide +kernel
theorem dL_isWhole_138 : decode cL_isWhole 138 = .ok (.iconst 1, 1) := by decide +kernel
theorem dL_isWhole_139 : decode cL_isWhole 139 = .ok (.iconst 5, 1) := by decide +kernel
theorem dL_isWhole_140 : decode cL_isWhole 140 = .ok (.bipush 6, 2) := by decide +kernel
theorem dL_isWhole_142 : decode cL_isWhole 142 = .ok (.iconst 5, 1) := by decide +kernel
theorem dL_isWhole_143 : decode cL_isWhole 143 = .ok (.invokevirtual 132, 3) := by decide +kernel
theorem dL_isWhole_146 : decode cL_isWhole 146 = .ok (.ifCond .ne 14, 3) := by decide +kernel
theorem dL_isWhole_149 : decode cL_isWhole 149 = .ok (.iload_n 1, 1) := by decide +kernel
theorem dL_isWhole_150 : decode cL_isWhole 150 = .ok (.iload_n 2, 1) := by decide +kernel
theorem dL_isWhole_151 : decode cL_isWhole 151 = .ok (.iand, 1) := by decide +kernel
theorem dL_isWhole_152 : decode cL_isWhole 152 = .ok (.iload_n 2, 1) := by decide +kernel
theorem dL_isWhole_153 : decode cL_isWhole 153 = .ok (.if_icmp .ne 7, 3) := by decide +kernel
theorem dL_isWhole_156 : decode cL_isWhole 156 = .ok (.iconst 1, 1) := by decide +kernel
theorem dL_isWhole_157 : decode cL_isWhole 157 = .ok (.goto 4, 3) := by decide +kernel
theorem dL_isWhole_160 : decode cL_isWhole 160 = .ok (.iconst 0, 1) := by decide +kernel
theorem dL_isWhole_161 : decode cL_isWhole 161 = .ok (.ireturn, 1) := by decide +kernel
theorem dL_isLeft_0 : decode cL_isLeft 0 = .ok (.aload_n 0, 1) := by decide +kernel
theorem dL_isLeft_1 : decode cL_isLeft 1 = .ok (.iconst 0, 1) := by decide +kernel
theorem dL_isLeft_2 : decode cL_isLeft 2 = .ok (.bipush 6, 2) := by decide +kernel
theorem dL_isLeft_4 : decode cL_isLeft 4 = .ok (.invokevirtual 87, 3) := by decide +kernel
theorem dL_isLeft_7 : decode cL_isLeft 7 = .ok (.ifCond .ne 5, 3) := by decide +kernel
theorem dL_isLeft_10 : decode cL_isLeft 10 = .ok (.iconst 1, 1) := by decide +kernel
theorem dL_isLeft_11 : decode cL_isLeft 11 = .ok (.ireturn, 1) := by decide +kernel
theorem dL_isLeft_12 : decode cL_isLeft 12 = .ok (.iconst 1, 1) := by decide +kernel
theorem dL_isLeft_13 : decode cL_isLeft 13 = .ok (.istore_n 2, 1) := by decide +kernel
theorem dL_isLeft_14 : decode cL_isLeft 14 = .ok (.iload_n 2, 1) := by decide +kernel
theorem dL_isLeft_15 : decode cL_isLeft 15 = .ok (.iconst 4, 1) := by decide +kernel
theorem dL_isLeft_16 : decode cL_isLeft 16 = .ok (.if_icmp .ge 86, 3) := by decide +kernel
theorem dL_isLeft_19 : decode cL_isLeft 19 = .ok (.iload_n 1, 1) := by decide +kernel
theorem dL_isLeft_20 : decode cL_isLeft 20 = .ok (.iload_n 2, 1) := by decide +kernel
theorem dL_isLeft_21 : decode cL_isLeft 21 = .ok (.ishr, 1) := by decide +kernel
theorem dL_isLeft_22 : decode cL_isLeft 22 = .ok (.iconst 1, 1) := by decide +kernel
theorem dL_isLeft_23 : decode cL_isLeft 23 = .ok (.iand, 1) := by decide +kernel
theorem dL_isLeft_24 : decode cL_isLeft 24 = .ok (.ifCond .eq 72, 3) := by decide +kernel
theorem dL_isLeft_27 : decode cL_isLeft 27 = .ok (.aload_n 0, 1) := by decide +kernel
theorem dL_isLeft_28 : decode cL_isLeft 28 = .ok (.iload_n 2, 1) := by decide +kernel
theorem dL_isLeft_29 : decode cL_isLeft 29 = .ok (.iconst (-1), 1) := by decide +kernel
theorem dL_isLeft_30 : decode cL_isLeft 30 = .ok (.iconst 0, 1) := by decide +kernel
theorem dL_isLeft_31 : decode cL_isLeft 31 = .ok (.invokevirtual 114, 3) := by decide +kernel
theorem dL_isLeft_34 : decode cL_isLeft 34 = .ok (.ifCond .ne 6, 3) := by decide +kernel
theorem dL_isLeft_37 : decode cL_isLeft 37 = .ok (.goto 59, 3) := by decide +kernel
theorem dL_isLeft_40 : decode cL_isLeft 40 = .ok (.aload_n 0, 1) := by decide +kernel
theorem dL_isLeft_41 : decode cL_isLeft 41 = .ok (.iload_n 2, 1) := by decide +kernel
theorem dL_isLeft_42 : decode cL_isLeft 42 = .ok (.iconst 0, 1) := by decide +kernel
theorem dL_isLeft_43 : decode cL_isLeft 43 = .ok (.iconst 1, 1) := by decide +kernel
theorem dL_isLeft_44 : decode cL_isLeft 44 = .ok (.invokevirtual 114, 3) := by decide +kernel
theorem dL_isLeft_47 : decode cL_isLeft 47 = .ok (.aload_n 0, 1) := by decide +kernel
theorem dL_isLeft_48 : decode cL_isLeft 48 = .ok (.bipush 6, 2) := by decide +kernel
theorem dL_isLeft_50 : decode cL_isLeft 50 = .ok (.iconst 0, 1) := by decide +kernel
theorem dL_isLeft_51 : decode cL_isLeft 51 = .ok (.iconst 1, 1) := by decide +kernel
theorem dL_isLeft_52 : decode cL_isLeft 52 = .ok (.invokevirtual 114, 3) := by decide +kernel
theorem dL_isLeft_55 : decode cL_isLeft 55 = .ok (.if_icmp .gt 41, 3) := by decide +kernel
theorem dL_isLeft_58 : decode cL_isLeft 58 = .ok (.aload_n 0, 1) := by decide +kernel
theorem dL_isLeft_59 : decode cL_isLeft 59 = .ok (.iload_n 2, 1) := by decide +kernel
theorem dL_isLeft_60 : decode cL_isLeft 60 = .ok (.iconst 0, 1) := by decide +kernel
theorem dL_isLeft_61 : decode cL_isLeft 61 = .ok (.iconst 2, 1) := by decide +kernel
theorem dL_isLeft_62 : decode cL_isLeft 62 = .ok (.invokevirtual 114, 3) := by decide +kernel
theorem dL_isLeft_65 : decode cL_isLeft 65 = .ok (.aload_n 0, 1) := by decide +kernel
theorem dL_isLeft_66 : decode cL_isLeft 66 = .ok (.bipush 6, 2) := by decide +kernel
theorem dL_isLeft_68 : decode cL_isLeft 68 = .ok (.iconst 0, 1) := by decide +kernel
theorem dL_isLeft_69 : decode cL_isLeft 69 = .ok (.iconst 2, 1) := by decide +kernel
theorem dL_isLeft_70 : decode cL_isLeft 70 = .ok (.invokevirtual 114, 3) := by decide +kernel
theorem dL_isLeft_73 : decode cL_isLeft 73 = .ok (.if_icmp .gt 23, 3) := by decide +kernel
theorem dL_isLeft_76 : decode cL_isLeft 76 = .ok (.aload_n 0, 1) := by decide +kernel
theorem dL_isLeft_77 : decode cL_isLeft 77 = .ok (.iload_n 2, 1) := by decide +kernel
theorem dL_isLeft_78 : decode cL_isLeft 78 = .ok (.iconst 0, 1) := by decide +kernel
theorem dL_isLeft_79 : decode cL_isLeft 79 = .ok (.iconst 3, 1) := by decide +kernel
theorem dL_isLeft_80 : decode cL_isLeft 80 = .ok (.invokevirtual 114, 3) := by decide +kernel
theorem dL_isLeft_83 : decode cL_isLeft 83 = .ok (.aload_n 0, 1) := by decide +kernel
theorem dL_isLeft_84 : decode cL_isLeft 84 = .ok (.bipush 6, 2) := by decide +kernel
theorem dL_isLeft_86 : decode cL_isLeft 86 = .ok (.iconst 0, 1) := by decide +kernel
theorem dL_isLeft_87 : decode cL_isLeft 87 = .ok (.iconst 3, 1) := by decide +kernel
theorem dL_isLeft_88 : decode cL_isLeft 88 = .ok (.invokevirtual 114, 3) := by decide +kernel
theorem dL_isLeft_91 : decode cL_isLeft 91 = .ok (.if_icmp .gt 5, 3) := by decide +kernel
theorem dL_isLeft_94 : decode cL_isLeft 94 = .ok (.iconst 0, 1) := by decide +kernel
theorem dL_isLeft_95 : decode cL_isLeft 95 = .ok (.ireturn, 1) := by decide +kernel
theorem dL_isLeft_96 : decode cL_isLeft 96 = .ok (.iinc 2 1, 3) := by decide +kernel
theorem dL_isLeft_99 : decode cL_isLeft 99 = .ok (.goto (-85), 3) := by decide +kernel
theorem dL_isLeft_102 : decode cL_isLeft 102 = .ok (.iconst 1, 1) := by decide +kernel
theorem dL_isLeft_103 : decode cL_isLeft 103 = .ok (.ireturn, 1) := by decide +kernel
theorem dL_isRest_0 : decode cL_isRest 0 = .ok (.aload_n 0, 1) := by decide +kernel
theorem dL_isRest_1 : decode cL_isRest 1 = .ok (.iconst 0, 1) := by decide +kernel
theorem dL_isRest_2 : decode cL_isRest 2 = .ok (.iload_n 1, 1) := by decide +kernel
theorem dL_isRest_3 : decode cL_isRest 3 = .ok (.iload_n 2, 1) := by decide +kernel
theorem dL_isRest_4 : decode cL_isRest 4 = .ok (.iconst 5, 1) := by decide +kernel
theorem dL_isRest_5 : decode cL_isRest 5 = .ok (.invokevirtual 136, 3) := by decide +kernel
theorem dL_isRest_8 : decode cL_isRest 8 = .ok (.istore_n 3, 1) := by decide +kernel
theorem dL_isRest_9 : decode cL_isRest 9 = .ok (.iload_n 3, 1) := by decide +kernel
theorem dL_isRest_10 : decode cL_isRest 10 = .ok (.ifCond .ge 5, 3) := by decide +kernel
theorem dL_isRest_13 : decode cL_isRest 13 = .ok (.iconst 1, 1) := by decide +kernel
theorem dL_isRest_14 : decode cL_isRest 14 = .ok (.ireturn, 1) := by decide +kernel
theorem dL_isRest_15 : decode cL_isRest 15 = .ok (.aload_n 0, 1) := by decide +kernel
theorem dL_isRest_16 : decode cL_isRest 16 = .ok (.iconst 5, 1) := by decide +kernel
theorem dL_isRest_17 : decode cL_isRest 17 = .ok (.iload_n 1, 1) := by decide +kernel
theorem dL_isRest_18 : decode cL_isRest 18 = .ok (.iload_n 2, 1) := by decide +kernel
theorem dL_isRest_19 : decode cL_isRest 19 = .ok (.bipush 6, 2) := by decide +kernel
theorem dL_isRest_21 : decode cL_isRest 21 = .ok (.invokevirtual 136, 3) := by decide +kernel
theorem dL_isRest_24 : decode cL_isRest 24 = .ok (.iload_n 3, 1) := by decide +kernel
theorem dL_isRest_25 : decode cL_isRest 25 = .ok (.if_icmp .ne 20, 3) := by decide +kernel
theorem dL_isRest_28 : decode cL_isRest 28 = .ok (.aload_n 0, 1) := by decide +kernel
theorem dL_isRest_29 : decode cL_isRest 29 = .ok (.iconst 5, 1) := by decide +kernel
theorem dL_isRest_30 : decode cL_isRest 30 = .ok (.invokestatic 139, 3) := by decide +kernel
theorem dL_isRest_33 : decode cL_isRest 33 = .ok (.aload_n 0, 1) := by decide +kernel
theorem dL_isRest_34 : decode cL_isRest 34 = .ok (.bipush 6, 2) := by decide +kernel
theorem dL_isRest_36 : decode cL_isRest 36 = .ok (.invokestatic 139, 3) := by decide +kernel
theorem dL_isRest_39 : decode cL_isRest 39 = .ok (.invokevirtual 143, 3) := by decide +kernel
theorem dL_isRest_42 : decode cL_isRest 42 = .ok (.ifCond .ne 5, 3) := by decide +kernel
theorem dL_isRest_45 : decode cL_isRest 45 = .ok (.iconst 0, 1) := by decide +kernel
theorem dL_isRest_46 : decode cL_isRest 46 = .ok (.ireturn, 1) := by decide +kernel
theorem dL_isRest_47 : decode cL_isRest 47 = .ok (.iconst 0, 1) := by decide +kernel
theorem dL_isRest_48 : decode cL_isRest 48 = .ok (.istore 4, 2) := by decide +kernel
theorem dL_isRest_50 : decode cL_isRest 50 = .ok (.iload 4, 2) := by decide +kernel
theorem dL_isRest_52 : decode cL_isRest 52 = .ok (.iload_n 3, 1) := by decide +kernel
theorem dL_isRest_53 : decode cL_isRest 53 = .ok (.if_icmp .ge 23, 3) := by decide +kernel
theorem dL_isRest_56 : decode cL_isRest 56 = .ok (.aload_n 0, 1) := by decide +kernel
theorem dL_isRest_57 : decode cL_isRest 57 = .ok (.iconst 5, 1) := by decide +kernel
theorem dL_isRest_58 : decode cL_isRest 58 = .ok (.iload 4, 2) := by decide +kernel
theorem dL_isRest_60 : decode cL_isRest 60 = .ok (.iconst 4, 1) := by decide +kernel
theorem dL_isRest_61 : decode cL_isRest 61 = .ok (.invokevirtual 114, 3) := by decide +kernel
theorem dL_isRest_64 : decode cL_isRest 64 = .ok (.iload_n 2, 1) := by decide +kernel
theorem dL_isRest_65 : decode cL_isRest 65 = .ok (.if_icmp .lt 5, 3) := by decide +kernel
theorem dL_isRest_68 : decode cL_isRest 68 = .ok (.iconst 0, 1) := by decide +kernel
theorem dL_isRest_69 : decode cL_isRest 69 = .ok (.ireturn, 1) := by decide +kernel
theorem dL_isRest_70 : decode cL_isRest 70 = .ok (.iinc 4 1, 3) := by decide +kernel
theorem dL_isRest_73 : decode cL_isRest 73 = .ok (.goto (-23), 3) := by decide +kernel
theorem dL_isRest_76 : decode cL_isRest 76 = .ok (.aload_n 0, 1) := by decide +kernel
theorem dL_isRest_77 : decode cL_isRest 77 = .ok (.iconst 1, 1) := by decide +kernel
theorem dL_isRest_78 : decode cL_isRest 78 = .ok (.iconst 0, 1) := by decide +kernel
theorem dL_isRest_79 : decode cL_isRest 79 = .ok (.iconst 5, 1) := by decide +kernel
theorem dL_isRest_80 : decode cL_isRest 80 = .ok (.bipush 6, 2) := by decide +kernel
theorem dL_isRest_82 : decode cL_isRest 82 = .ok (.invokevirtual 132, 3) := by decide +kernel
theorem dL_isRest_85 : decode cL_isRest 85 = .ok (.ifCond .lt 18, 3) := by decide +kernel
theorem dL_isRest_88 : decode cL_isRest 88 = .ok (.aload_n 0, 1) := by decide +kernel
theorem dL_isRest_89 : decode cL_isRest 89 = .ok (.bipush 6, 2) := by decide +kernel
theorem dL_isRest_91 : decode cL_isRest 91 = .ok (.iload_n 1, 1) := by decide +kernel
theorem dL_isRest_92 : decode cL_isRest 92 = .ok (.iload_n 2, 1) := by decide +kernel
theorem dL_isRest_93 : decode cL_isRest 93 = .ok (.bipush 6, 2) := by decide +kernel
theorem dL_isRest_95 : decode cL_isRest 95 = .ok (.invokevirtual 136, 3) := by decide +kernel
theorem dL_isRest_98 : decode cL_isRest 98 = .ok (.ifCond .eq 5, 3) := by decide +kernel
theorem dL_isRest_101 : decode cL_isRest 101 = .ok (.iconst 0, 1) := by decide +kernel
theorem dL_isRest_102 : decode cL_isRest 102 = .ok (.ireturn, 1) := by decide +kernel
theorem dL_isRest_103 : decode cL_isRest 103 = .ok (.aload_n 0, 1) := by decide +kernel
theorem dL_isRest_104 : decode cL_isRest 104 = .ok (.iconst 0, 1) := by decide +kernel
theorem dL_isRest_105 : decode cL_isRest 105 = .ok (.bipush 7, 2) := by decide +kernel
theorem dL_isRest_107 : decode cL_isRest 107 = .ok (.invokevirtual 87, 3) := by decide +kernel
theorem dL_isRest_110 : decode cL_isRest 110 = .ok (.pop, 1) := by decide +kernel
theorem dL_isRest_111 : decode cL_isRest 111 = .ok (.iconst 1, 1) := by decide +kernel
theorem dL_isRest_112 : decode cL_isRest 112 = .ok (.istore 4, 2) := by decide +kernel
theorem dL_isRest_114 : decode cL_isRest 114 = .ok (.iload 4, 2) := by decide +kernel
theorem dL_isRest_116 : decode cL_isRest 116 = .ok (.iconst 4, 1) := by decide +kernel
theorem dL_isRest_117 : decode cL_isRest 117 = .ok (.if_icmp .ge 34, 3) := by decide +kernel
theorem dL_isRest_120 : decode cL_isRest 120 = .ok (.iload_n 1, 1) := by decide +kernel
theorem dL_isRest_121 : decode cL_isRest 121 = .ok (.iload 4, 2) := by decide +kernel
theorem dL_isRest_123 : decode cL_isRest 123 = .ok (.ishr, 1) := by decide +kernel
theorem dL_isRest_124 : decode cL_isRest 124 = .ok (.iconst 1, 1) := by decide +kernel
theorem dL_isRest_125 : decode cL_isRest 125 = .ok (.iand, 1) := by decide +kernel
theorem dL_isRest_126 : decode cL_isRest 126 = .ok (.iconst 1, 1) := by decide +kernel
theorem dL_isRest_127 : decode cL_isRest 127 = .ok (.if_icmp .ne 18, 3) := by decide +kernel
theorem dL_isRest_130 : decode cL_isRest 130 = .ok (.aload_n 0, 1) := by decide +kernel
theorem dL_isRest_131 : decode cL_isRest 131 = .ok (.iload 4, 2) := by decide +kernel
theorem dL_isRest_133 : decode cL_isRest 133 = .ok (.iload_n 1, 1) := by decide +kernel
theorem dL_isRest_134 : decode cL_isRest 134 = .ok (.iload_n 2, 1) := by decide +kernel
theorem dL_isRest_135 : decode cL_isRest 135 = .ok (.bipush 6, 2) := by decide +kernel
theorem dL_isRest_137 : decode cL_isRest 137 = .ok (.invokevirtual 136, 3) := by decide +kernel
theorem dL_isRest_140 : decode cL_isRest 140 = .ok (.ifCond .eq 5, 3) := by decide +kernel
theorem dL_isRest_143 : decode cL_isRest 143 = .ok (.iconst 0, 1) := by decide +kernel
theorem dL_isRest_144 : decode cL_isRest 144 = .ok (.ireturn, 1) := by decide +kernel
theorem dL_isRest_145 : decode cL_isRest 145 = .ok (.iinc 4 1, 3) := by decide +kernel
theorem dL_isRest_148 : decode cL_isRest 148 = .ok (.goto (-34), 3) := by decide +kernel
theorem dL_isRest_151 : decode cL_isRest 151 = .ok (.aload_n 0, 1) := by decide +kernel
theorem dL_isRest_152 : decode cL_isRest 152 = .ok (.iload_n 1, 1) := by decide +kernel
theorem dL_isRest_153 : decode cL_isRest 153 = .ok (.iload_n 2, 1) := by decide +kernel
theorem dL_isRest_154 : decode cL_isRest 154 = .ok (.iconst (-1), 1) := by decide +kernel
theorem dL_isRest_155 : decode cL_isRest 155 = .ok (.invokevirtual 147, 3) := by decide +kernel
theorem dL_isRest_158 : decode cL_isRest 158 = .ok (.ifCond .lt 7, 3) := by decide +kernel
theorem dL_isRest_161 : decode cL_isRest 161 = .ok (.iconst 1, 1) := by decide +kernel
theorem dL_isRest_162 : decode cL_isRest 162 = .ok (.goto 4, 3) := by decide +kernel
theorem dL_isRest_165 : decode cL_isRest 165 = .ok (.iconst 0, 1) := by decide +kernel
theorem dL_isRest_166 : decode cL_isRest 166 = .ok (.ireturn, 1) := by decide +kernel
