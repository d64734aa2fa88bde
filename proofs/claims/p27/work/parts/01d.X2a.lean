theorem dX2_init_0 : decode cX2_init 0 = .ok (.aload_n 0, 1) := by decide +kernel
theorem dX2_init_1 : decode cX2_init 1 = .ok (.invokespecial 3, 3) := by decide +kernel
theorem dX2_init_4 : decode cX2_init 4 = .ok (.aload_n 0, 1) := by decide +kernel
theorem dX2_init_5 : decode cX2_init 5 = .ok (.iconst (-1), 1) := by decide +kernel
theorem dX2_init_6 : decode cX2_init 6 = .ok (.putfield 9, 3) := by decide +kernel
theorem dX2_init_9 : decode cX2_init 9 = .ok (.aload_n 0, 1) := by decide +kernel
theorem dX2_init_10 : decode cX2_init 10 = .ok (.bipush 120, 2) := by decide +kernel
theorem dX2_init_12 : decode cX2_init 12 = .ok (.bipush 120, 2) := by decide +kernel
theorem dX2_init_14 : decode cX2_init 14 = .ok (.multianewarray 15 2, 4) := by decide +kernel
theorem dX2_init_18 : decode cX2_init 18 = .ok (.putfield 17, 3) := by decide +kernel
theorem dX2_init_21 : decode cX2_init 21 = .ok (.aload_n 0, 1) := by decide +kernel
theorem dX2_init_22 : decode cX2_init 22 = .ok (.bipush 120, 2) := by decide +kernel
theorem dX2_init_24 : decode cX2_init 24 = .ok (.newarray .int, 2) := by decide +kernel
theorem dX2_init_26 : decode cX2_init 26 = .ok (.putfield 20, 3) := by decide +kernel
theorem dX2_init_29 : decode cX2_init 29 = .ok (.aload_n 0, 1) := by decide +kernel
theorem dX2_init_30 : decode cX2_init 30 = .ok (.bipush 120, 2) := by decide +kernel
theorem dX2_init_32 : decode cX2_init 32 = .ok (.newarray .int, 2) := by decide +kernel
theorem dX2_init_34 : decode cX2_init 34 = .ok (.putfield 24, 3) := by decide +kernel
theorem dX2_init_37 : decode cX2_init 37 = .ok (.return_, 1) := by decide +kernel
theorem dX2_build_0 : decode cX2_build 0 = .ok (.aload_n 3, 1) := by decide +kernel
theorem dX2_build_1 : decode cX2_build 1 = .ok (.invokevirtual 27, 3) := by decide +kernel
theorem dX2_build_4 : decode cX2_build 4 = .ok (.bipush 120, 2) := by decide +kernel
theorem dX2_build_6 : decode cX2_build 6 = .ok (.invokestatic 33, 3) := by decide +kernel
theorem dX2_build_9 : decode cX2_build 9 = .ok (.istore 4, 2) := by decide +kernel
theorem dX2_build_11 : decode cX2_build 11 = .ok (.aload_n 0, 1) := by decide +kernel
theorem dX2_build_12 : decode cX2_build 12 = .ok (.getfield 20, 3) := by decide +kernel
theorem dX2_build_15 : decode cX2_build 15 = .ok (.iconst 0, 1) := by decide +kernel
theorem dX2_build_16 : decode cX2_build 16 = .ok (.invokestatic 39, 3) := by decide +kernel
theorem dX2_build_19 : decode cX2_build 19 = .ok (.iconst 0, 1) := by decide +kernel
theorem dX2_build_20 : decode cX2_build 20 = .ok (.istore 5, 2) := by decide +kernel
theorem dX2_build_22 : decode cX2_build 22 = .ok (.iload 5, 2) := by decide +kernel
theorem dX2_build_24 : decode cX2_build 24 = .ok (.aload_n 1, 1) := by decide +kernel
theorem dX2_build_25 : decode cX2_build 25 = .ok (.arraylength, 1) := by decide +kernel
theorem dX2_build_26 : decode cX2_build 26 = .ok (.if_icmp .ge 38, 3) := by decide +kernel
theorem dX2_build_29 : decode cX2_build 29 = .ok (.iload_n 2, 1) := by decide +kernel
theorem dX2_build_30 : decode cX2_build 30 = .ok (.iload 5, 2) := by decide +kernel
theorem dX2_build_32 : decode cX2_build 32 = .ok (.ishr, 1) := by decide +kernel
theorem dX2_build_33 : decode cX2_build 33 = .ok (.iconst 1, 1) := by decide +kernel
theorem dX2_build_34 : decode cX2_build 34 = .ok (.iand, 1) := by decide +kernel
theorem dX2_build_35 : decode cX2_build 35 = .ok (.iconst 1, 1) := by decide +kernel
theorem dX2_build_36 : decode cX2_build 36 = .ok (.if_icmp .ne 22, 3) := by decide +kernel
theorem dX2_build_39 : decode cX2_build 39 = .ok (.aload_n 0, 1) := by decide +kernel
theorem dX2_build_40 : decode cX2_build 40 = .ok (.aload_n 1, 1) := by decide +kernel
theorem dX2_build_41 : decode cX2_build 41 = .ok (.iload 5, 2) := by decide +kernel
theorem dX2_build_43 : decode cX2_build 43 = .ok (.aaload, 1) := by decide +kernel
theorem dX2_build_44 : decode cX2_build 44 = .ok (.aload_n 3, 1) := by decide +kernel
theorem dX2_build_45 : decode cX2_build 45 = .ok (.invokevirtual 45, 3) := by decide +kernel
theorem dX2_build_48 : decode cX2_build 48 = .ok (.aload_n 0, 1) := by decide +kernel
theorem dX2_build_49 : decode cX2_build 49 = .ok (.iload 4, 2) := by decide +kernel
theorem dX2_build_51 : decode cX2_build 51 = .ok (.aload_n 3, 1) := by decide +kernel
theorem dX2_build_52 : decode cX2_build 52 = .ok (.getfield 49, 3) := by decide +kernel
theorem dX2_build_55 : decode cX2_build 55 = .ok (.invokevirtual 53, 3) := by decide +kernel
theorem dX2_build_58 : decode cX2_build 58 = .ok (.iinc 5 1, 3) := by decide +kernel
theorem dX2_build_61 : decode cX2_build 61 = .ok (.goto (-39), 3) := by decide +kernel
theorem dX2_build_64 : decode cX2_build 64 = .ok (.iconst 0, 1) := by decide +kernel
theorem dX2_build_65 : decode cX2_build 65 = .ok (.istore 5, 2) := by decide +kernel
theorem dX2_build_67 : decode cX2_build 67 = .ok (.iload 5, 2) := by decide +kernel
theorem dX2_build_69 : decode cX2_build 69 = .ok (.iload 4, 2) := by decide +kernel
theorem dX2_build_71 : decode cX2_build 71 = .ok (.if_icmp .ge 67, 3) := by decide +kernel
theorem dX2_build_74 : decode cX2_build 74 = .ok (.iconst 0, 1) := by decide +kernel
theorem dX2_build_75 : decode cX2_build 75 = .ok (.istore 6, 2) := by decide +kernel
theorem dX2_build_77 : decode cX2_build 77 = .ok (.iload 6, 2) := by decide +kernel
theorem dX2_build_79 : decode cX2_build 79 = .ok (.aload_n 3, 1) := by decide +kernel
theorem dX2_build_80 : decode cX2_build 80 = .ok (.getfield 57, 3) := by decide +kernel
theorem dX2_build_83 : decode cX2_build 83 = .ok (.if_icmp .ge 49, 3) := by decide +kernel
theorem dX2_build_86 : decode cX2_build 86 = .ok (.aload_n 0, 1) := by decide +kernel
theorem dX2_build_87 : decode cX2_build 87 = .ok (.getfield 20, 3) := by decide +kernel
theorem dX2_build_90 : decode cX2_build 90 = .ok (.iload 5, 2) := by decide +kernel
theorem dX2_build_92 : decode cX2_build 92 = .ok (.iaload, 1) := by decide +kernel
theorem dX2_build_93 : decode cX2_build 93 = .ok (.ifCond .eq 39, 3) := by decide +kernel
theorem dX2_build_96 : decode cX2_build 96 = .ok (.aload_n 0, 1) := by decide +kernel
theorem dX2_build_97 : decode cX2_build 97 = .ok (.aload_n 0, 1) := by decide +kernel
theorem dX2_build_98 : decode cX2_build 98 = .ok (.getfield 17, 3) := by decide +kernel
theorem dX2_build_101 : decode cX2_build 101 = .ok (.iload 5, 2) := by decide +kernel
theorem dX2_build_103 : decode cX2_build 103 = .ok (.aaload, 1) := by decide +kernel
theorem dX2_build_104 : decode cX2_build 104 = .ok (.aload_n 3, 1) := by decide +kernel
theorem dX2_build_105 : decode cX2_build 105 = .ok (.getfield 60, 3) := by decide +kernel
theorem dX2_build_108 : decode cX2_build 108 = .ok (.iload 6, 2) := by decide +kernel
theorem dX2_build_110 : decode cX2_build 110 = .ok (.aaload, 1) := by decide +kernel
theorem dX2_build_111 : decode cX2_build 111 = .ok (.iload 4, 2) := by decide +kernel
theorem dX2_build_113 : decode cX2_build 113 = .ok (.invokevirtual 63, 3) := by decide +kernel
theorem dX2_build_116 : decode cX2_build 116 = .ok (.aload_n 0, 1) := by decide +kernel
theorem dX2_build_117 : decode cX2_build 117 = .ok (.iload 4, 2) := by decide +kernel
theorem dX2_build_119 : decode cX2_build 119 = .ok (.aload_n 3, 1) := by decide +kernel
theorem dX2_build_120 : decode cX2_build 120 = .ok (.getfield 49, 3) := by decide +kernel
theorem dX2_build_123 : decode cX2_build 123 = .ok (.invokevirtual 53, 3) := by decide +kernel
theorem dX2_build_126 : decode cX2_build 126 = .ok (.iinc 6 1, 3) := by decide +kernel
theorem dX2_build_129 : decode cX2_build 129 = .ok (.goto (-52), 3) := by decide +kernel
theorem dX2_build_132 : decode cX2_build 132 = .ok (.iinc 5 1, 3) := by decide +kernel
theorem dX2_build_135 : decode cX2_build 135 = .ok (.goto (-68), 3) := by decide +kernel
theorem dX2_build_138 : decode cX2_build 138 = .ok (.iconst 0, 1) := by decide +kernel
theorem dX2_build_139 : decode cX2_build 139 = .ok (.istore 5, 2) := by decide +kernel
theorem dX2_build_141 : decode cX2_build 141 = .ok (.iload 5, 2) := by decide +kernel
theorem dX2_build_143 : decode cX2_build 143 = .ok (.iload 4, 2) := by decide +kernel
theorem dX2_build_145 : decode cX2_build 145 = .ok (.if_icmp .ge 51, 3) := by decide +kernel
theorem dX2_build_148 : decode cX2_build 148 = .ok (.iconst 0, 1) := by decide +kernel
theorem dX2_build_149 : decode cX2_build 149 = .ok (.istore 6, 2) := by decide +kernel
theorem dX2_build_151 : decode cX2_build 151 = .ok (.iload 6, 2) := by decide +kernel
theorem dX2_build_153 : decode cX2_build 153 = .ok (.aload_n 3, 1) := by decide +kernel
theorem dX2_build_154 : decode cX2_build 154 = .ok (.getfield 57, 3) := by decide +kernel
theorem dX2_build_157 : decode cX2_build 157 = .ok (.if_icmp .ge 33, 3) := by decide +kernel
theorem dX2_build_160 : decode cX2_build 160 = .ok (.aload_n 0, 1) := by decide +kernel
theorem dX2_build_161 : decode cX2_build 161 = .ok (.getfield 20, 3) := by decide +kernel
theorem dX2_build_164 : decode cX2_build 164 = .ok (.iload 5, 2) := by decide +kernel
theorem dX2_build_166 : decode cX2_build 166 = .ok (.iaload, 1) := by decide +kernel
theorem dX2_build_167 : decode cX2_build 167 = .ok (.ifCond .eq 23, 3) := by decide +kernel
theorem dX2_build_170 : decode cX2_build 170 = .ok (.aload_n 0, 1) := by decide +kernel
theorem dX2_build_171 : decode cX2_build 171 = .ok (.aload_n 3, 1) := by decide +kernel
theorem dX2_build_172 : decode cX2_build 172 = .ok (.getfield 60, 3) := by decide +kernel
theorem dX2_build_175 : decode cX2_build 175 = .ok (.iload 6, 2) := by decide +kernel
theorem dX2_build_177 : decode cX2_build 177 = .ok (.aaload, 1) := by decide +kernel
theorem dX2_build_178 : decode cX2_build 178 = .ok (.iload 5, 2) := by decide +kernel
theorem dX2_build_180 : decode cX2_build 180 = .ok (.iaload, 1) := by decide +kernel
theorem dX2_build_181 : decode cX2_build 181 = .ok (.invokevirtual 67, 3) := by decide +kernel
theorem dX2_build_184 : decode cX2_build 184 = .ok (.iinc 6 1, 3) := by decide +kernel
theorem dX2_build_187 : decode cX2_build 187 = .ok (.goto (-36), 3) := by decide +kernel
theorem dX2_build_190 : decode cX2_build 190 = .ok (.iinc 5 1, 3) := by decide +kernel
theorem dX2_build_193 : decode cX2_build 193 = .ok (.goto (-52), 3) := by decide +kernel
theorem dX2_build_196 : decode cX2_build 196 = .ok (.return_, 1) := by decide +kernel
theorem dX2_count_0 : decode cX2_count 0 = .ok (.iconst 0, 1) := by decide +kernel
theorem dX2_count_1 : decode cX2_count 1 = .ok (.istore 4, 2) := by decide +kernel
theorem dX2_count_3 : decode cX2_count 3 = .ok (.iload_n 2, 1) := by decide +kernel
theorem dX2_count_4 : decode cX2_count 4 = .ok (.iconst 0, 1) := by decide +kernel
theorem dX2_count_5 : decode cX2_count 5 = .ok (.invokestatic 71, 3) := by decide +kernel
theorem dX2_count_8 : decode cX2_count 8 = .ok (.istore 5, 2) := by decide +kernel
theorem dX2_count_10 : decode cX2_count 10 = .ok (.iload 5, 2) := by decide +kernel
theorem dX2_count_12 : decode cX2_count 12 = .ok (.iload_n 3, 1) := by decide +kernel
theorem dX2_count_13 : decode cX2_count 13 = .ok (.if_icmp .ge 29, 3) := by decide +kernel
theorem dX2_count_16 : decode cX2_count 16 = .ok (.iload 5, 2) := by decide +kernel
theorem dX2_count_18 : decode cX2_count 18 = .ok (.bipush 120, 2) := by decide +kernel
theorem dX2_count_20 : decode cX2_count 20 = .ok (.if_icmp .ge 22, 3) := by decide +kernel
theorem dX2_count_23 : decode cX2_count 23 = .ok (.aload_n 0, 1) := by decide +kernel
theorem dX2_count_24 : decode cX2_count 24 = .ok (.iload_n 1, 1) := by decide +kernel
theorem dX2_count_25 : decode cX2_count 25 = .ok (.iload 5, 2) := by decide +kernel
theorem dX2_count_27 : decode cX2_count 27 = .ok (.invokevirtual 74, 3) := by decide +kernel
theorem dX2_count_30 : decode cX2_count 30 = .ok (.ifCond .eq 6, 3) := by decide +kernel
theorem dX2_count_33 : decode cX2_count 33 = .ok (.iinc 4 1, 3) := by decide +kernel
theorem dX2_count_36 : decode cX2_count 36 = .ok (.iinc 5 1, 3) := by decide +kernel
theorem dX2_count_39 : decode cX2_count 39 = .ok (.goto (-29), 3) := by decide +kernel
theorem dX2_count_42 : decode cX2_count 42 = .ok (.iload 4, 2) := by decide +kernel
theorem dX2_count_44 : decode cX2_count 44 = .ok (.ireturn, 1) := by decide +kernel
theorem dX2_leaveOver_0 : decode cX2_leaveOver 0 = .ok (.aload 4, 2) := by decide +kernel
theorem dX2_leaveOver_2 : decode cX2_leaveOver 2 = .ok (.getfield 84, 3) := by decide +kernel
theorem dX2_leaveOver_5 : decode cX2_leaveOver 5 = .ok (.iload_n 2, 1) := by decide +kernel
theorem dX2_leaveOver_6 : decode cX2_leaveOver 6 = .ok (.iaload, 1) := by decide +kernel
theorem dX2_leaveOver_7 : decode cX2_leaveOver 7 = .ok (.bipush 120, 2) := by decide +kernel
theorem dX2_leaveOver_9 : decode cX2_leaveOver 9 = .ok (.invokestatic 33, 3) := by decide +kernel
theorem dX2_leaveOver_12 : decode cX2_leaveOver 12 = .ok (.istore 5, 2) := by decide +kernel
theorem dX2_leaveOver_14 : decode cX2_leaveOver 14 = .ok (.aload_n 0, 1) := by decide +kernel
theorem dX2_leaveOver_15 : decode cX2_leaveOver 15 = .ok (.aload_n 1, 1) := by decide +kernel
theorem dX2_leaveOver_16 : decode cX2_leaveOver 16 = .ok (.aload 4, 2) := by decide +kernel
theorem dX2_leaveOver_18 : decode cX2_leaveOver 18 = .ok (.invokevirtual 45, 3) := by decide +kernel
theorem dX2_leaveOver_21 : decode cX2_leaveOver 21 = .ok (.aload_n 3, 1) := by decide +kernel
theorem dX2_leaveOver_22 : decode cX2_leaveOver 22 = .ok (.invokevirtual 95, 3) := by decide +kernel
theorem dX2_leaveOver_25 : decode cX2_leaveOver 25 = .ok (.iconst 0, 1) := by decide +kernel
theorem dX2_leaveOver_26 : decode cX2_leaveOver 26 = .ok (.istore 6, 2) := by decide +kernel
theorem dX2_leaveOver_28 : decode cX2_leaveOver 28 = .ok (.iload 6, 2) := by decide +kernel
theorem dX2_leaveOver_30 : decode cX2_leaveOver 30 = .ok (.iload 5, 2) := by decide +kernel
theorem dX2_leaveOver_32 : decode cX2_leaveOver 32 = .ok (.if_icmp .ge 79, 3) := by decide +kernel
theorem dX2_leaveOver_35 : decode cX2_leaveOver 35 = .ok (.aload_n 0, 1) := by decide +kernel
theorem dX2_leaveOver_36 : decode cX2_leaveOver 36 = .ok (.getfield 24, 3) := by decide +kernel
theorem dX2_leaveOver_39 : decode cX2_leaveOver 39 = .ok (.iload 6, 2) := by decide +kernel
theorem dX2_leaveOver_41 : decode cX2_leaveOver 41 = .ok (.iaload, 1) := by decide +kernel
theorem dX2_leaveOver_42 : decode cX2_leaveOver 42 = .ok (.ifCond .eq 29, 3) := by decide +kernel
theorem dX2_leaveOver_45 : decode cX2_leaveOver 45 = .ok (.aload_n 0, 1) := by decide +kernel
theorem dX2_leaveOver_46 : decode cX2_leaveOver 46 = .ok (.getfield 20, 3) := by decide +kernel
theorem dX2_leaveOver_49 : decode cX2_leaveOver 49 = .ok (.iload 6, 2) := by decide +kernel
theorem dX2_leaveOver_51 : decode cX2_leaveOver 51 = .ok (.iaload, 1) := by decide +kernel
theorem dX2_leaveOver_52 : decode cX2_leaveOver 52 = .ok (.ifCond .eq 19, 3) := by decide +kernel
theorem dX2_leaveOver_55 : decode cX2_leaveOver 55 = .ok (.aload_n 0, 1) := by decide +kernel
theorem dX2_leaveOver_56 : decode cX2_leaveOver 56 = .ok (.iload 6, 2) := by decide +kernel
theorem dX2_leaveOver_58 : decode cX2_leaveOver 58 = .ok (.iload 5, 2) := by decide +kernel
theorem dX2_leaveOver_60 : decode cX2_leaveOver 60 = .ok (.aload 4, 2) := by decide +kernel
theorem dX2_leaveOver_62 : decode cX2_leaveOver 62 = .ok (.getfield 49, 3) := by decide +kernel
theorem dX2_leaveOver_65 : decode cX2_leaveOver 65 = .ok (.invokevirtual 100, 3) := by decide +kernel
theorem dX2_leaveOver_68 : decode cX2_leaveOver 68 = .ok (.goto 37, 3) := by decide +kernel
theorem dX2_leaveOver_71 : decode cX2_leaveOver 71 = .ok (.aload_n 0, 1) := by decide +kernel
theorem dX2_leaveOver_72 : decode cX2_leaveOver 72 = .ok (.getfield 24, 3) := by decide +kernel
theorem dX2_leaveOver_75 : decode cX2_leaveOver 75 = .ok (.iload 6, 2) := by decide +kernel
theorem dX2_leaveOver_77 : decode cX2_leaveOver 77 = .ok (.iaload, 1) := by decide +kernel
theorem dX2_leaveOver_78 : decode cX2_leaveOver 78 = .ok (.ifCond .eq 27, 3) := by decide +kernel
theorem dX2_leaveOver_81 : decode cX2_leaveOver 81 = .ok (.aload_n 3, 1) := by decide +kernel
theorem dX2_leaveOver_82 : decode cX2_leaveOver 82 = .ok (.aload 4, 2) := by decide +kernel
theorem dX2_leaveOver_84 : decode cX2_leaveOver 84 = .ok (.getfield 104, 3) := by decide +kernel
theorem dX2_leaveOver_87 : decode cX2_leaveOver 87 = .ok (.iload 6, 2) := by decide +kernel
theorem dX2_leaveOver_89 : decode cX2_leaveOver 89 = .ok (.iaload, 1) := by decide +kernel
theorem dX2_leaveOver_90 : decode cX2_leaveOver 90 = .ok (.aload_n 0, 1) := by decide +kernel
theorem dX2_leaveOver_91 : decode cX2_leaveOver 91 = .ok (.getfield 24, 3) := by decide +kernel
theorem dX2_leaveOver_94 : decode cX2_leaveOver 94 = .ok (.iload 6, 2) := by decide +kernel
theorem dX2_leaveOver_96 : decode cX2_leaveOver 96 = .ok (.iaload, 1) := by decide +kernel
theorem dX2_leaveOver_97 : decode cX2_leaveOver 97 = .ok (.invokevirtual 107, 3) := by decide +kernel
theorem dX2_leaveOver_100 : decode cX2_leaveOver 100 = .ok (.ifCond .ne 5, 3) := by decide +kernel
theorem dX2_leaveOver_103 : decode cX2_leaveOver 103 = .ok (.iconst 0, 1) := by decide +kernel
theorem dX2_leaveOver_104 : decode cX2_leaveOver 104 = .ok (.ireturn, 1) := by decide +kernel
theorem dX2_leaveOver_105 : decode cX2_leaveOver 105 = .ok (.iinc 6 1, 3) := by decide +kernel
theorem dX2_leaveOver_108 : decode cX2_leaveOver 108 = .ok (.goto (-80), 3) := by decide +kernel
theorem dX2_leaveOver_111 : decode cX2_leaveOver 111 = .ok (.iconst 1, 1) := by decide +kernel
theorem dX2_leaveOver_112 : decode cX2_leaveOver 112 = .ok (.ireturn, 1) := by decide +kernel
theorem dX2_isOf_0 : decode cX2_isOf 0 = .ok (.aload_n 0, 1) := by decide +kernel
theorem dX2_isOf_1 : decode cX2_isOf 1 = .ok (.getfield 20, 3) := by decide +kernel
theorem dX2_isOf_4 : decode cX2_isOf 4 = .ok (.iload_n 2, 1) := by decide +kernel
theorem dX2_isOf_5 : decode cX2_isOf 5 = .ok (.iaload, 1) := by decide +kernel
theorem dX2_isOf_6 : decode cX2_isOf 6 = .ok (.iload_n 1, 1) := by decide +kernel
theorem dX2_isOf_7 : decode cX2_isOf 7 = .ok (.if_icmp .ne 7, 3) := by decide +kernel
theorem dX2_isOf_10 : decode cX2_isOf 10 = .ok (.iconst 1, 1) := by decide +kernel
theorem dX2_isOf_11 : decode cX2_isOf 11 = .ok (.goto 4, 3) := by decide +kernel
theorem dX2_isOf_14 : decode cX2_isOf 14 = .ok (.iconst 0, 1) := by decide +kernel
theorem dX2_isOf_15 : decode cX2_isOf 15 = .ok (.ireturn, 1) := by decide +kernel
theorem dX2_load_0 : decode cX2_load 0 = .ok (.aload_n 0, 1) := by decide +kernel
theorem dX2_load_1 : decode cX2_load 1 = .ok (.getfield 24, 3) := by decide +kernel
theorem dX2_load_4 : decode cX2_load 4 = .ok (.iconst 0, 1) := by decide +kernel
theorem dX2_load_5 : decode cX2_load 5 = .ok (.invokestatic 39, 3) := by decide +kernel
theorem dX2_load_8 : decode cX2_load 8 = .ok (.iconst 0, 1) := by decide +kernel
theorem dX2_load_9 : decode cX2_load 9 = .ok (.istore_n 3, 1) := by decide +kernel
theorem dX2_load_10 : decode cX2_load 10 = .ok (.iload_n 3, 1) := by decide +kernel
theorem dX2_load_11 : decode cX2_load 11 = .ok (.aload_n 1, 1) := by decide +kernel
theorem dX2_load_12 : decode cX2_load 12 = .ok (.getfield 110, 3) := by decide +kernel
theorem dX2_load_15 : decode cX2_load 15 = .ok (.if_icmp .ge 46, 3) := by decide +kernel
theorem dX2_load_18 : decode cX2_load 18 = .ok (.aload_n 2, 1) := by decide +kernel
theorem dX2_load_19 : decode cX2_load 19 = .ok (.aload_n 1, 1) := by decide +kernel
theorem dX2_load_20 : decode cX2_load 20 = .ok (.getfield 113, 3) := by decide +kernel
theorem dX2_load_23 : decode cX2_load 23 = .ok (.iload_n 3, 1) := by decide +kernel
theorem dX2_load_24 : decode cX2_load 24 = .ok (.iaload, 1) := by decide +kernel
theorem dX2_load_25 : decode cX2_load 25 = .ok (.invokevirtual 114, 3) := by decide +kernel
theorem dX2_load_28 : decode cX2_load 28 = .ok (.istore 4, 2) := by decide +kernel
theorem dX2_load_30 : decode cX2_load 30 = .ok (.iload 4, 2) := by decide +kernel
theorem dX2_load_32 : decode cX2_load 32 = .ok (.ifCond .lt 23, 3) := by decide +kernel
theorem dX2_load_35 : decode cX2_load 35 = .ok (.iload 4, 2) := by decide +kernel
theorem dX2_load_37 : decode cX2_load 37 = .ok (.bipush 120, 2) := by decide +kernel
theorem dX2_load_39 : decode cX2_load 39 = .ok (.if_icmp .ge 16, 3) := by decide +kernel
theorem dX2_load_42 : decode cX2_load 42 = .ok (.aload_n 0, 1) := by decide +kernel
theorem dX2_load_43 : decode cX2_load 43 = .ok (.getfield 24, 3) := by decide +kernel
theorem dX2_load_46 : decode cX2_load 46 = .ok (.iload 4, 2) := by decide +kernel
theorem dX2_load_48 : decode cX2_load 48 = .ok (.aload_n 1, 1) := by decide +kernel
theorem dX2_load_49 : decode cX2_load 49 = .ok (.getfield 118, 3) := by decide +kernel
theorem dX2_load_52 : decode cX2_load 52 = .ok (.iload_n 3, 1) := by decide +kernel
theorem dX2_load_53 : decode cX2_load 53 = .ok (.iaload, 1) := by decide +kernel
theorem dX2_load_54 : decode cX2_load 54 = .ok (.iastore, 1) := by decide +kernel
theorem dX2_load_55 : decode cX2_load 55 = .ok (.iinc 3 1, 3) := by decide +kernel
theorem dX2_load_58 : decode cX2_load 58 = .ok (.goto (-48), 3) := by decide +kernel
theorem dX2_load_61 : decode cX2_load 61 = .ok (.return_, 1) := by decide +kernel
theorem dX2_loadProduct_0 : decode cX2_loadProduct 0 = .ok (.aload_n 0, 1) := by decide +kernel
theorem dX2_loadProduct_1 : decode cX2_loadProduct 1 = .ok (.getfield 24, 3) := by decide +kernel
theorem dX2_loadProduct_4 : decode cX2_loadProduct 4 = .ok (.iconst 0, 1) := by decide +kernel
theorem dX2_loadProduct_5 : decode cX2_loadProduct 5 = .ok (.invokestatic 39, 3) := by decide +kernel
theorem dX2_loadProduct_8 : decode cX2_loadProduct 8 = .ok (.iconst 0, 1) := by decide +kernel
theorem dX2_loadProduct_9 : decode cX2_loadProduct 9 = .ok (.istore 4, 2) := by decide +kernel
theorem dX2_loadProduct_11 : decode cX2_loadProduct 11 = .ok (.iload 4, 2) := by decide +kernel
theorem dX2_loadProduct_13 : decode cX2_loadProduct 13 = .ok (.iload_n 3, 1) := by decide +kernel
theorem dX2_loadProduct_14 : decode cX2_loadProduct 14 = .ok (.if_icmp .ge 52, 3) := by decide +kernel
theorem dX2_loadProduct_17 : decode cX2_loadProduct 17 = .ok (.iload 4, 2) := by decide +kernel
theorem dX2_loadProduct_19 : decode cX2_loadProduct 19 = .ok (.aload_n 1, 1) := by decide +kernel
theorem dX2_loadProduct_20 : decode cX2_loadProduct 20 = .ok (.arraylength, 1) := by decide +kernel
theorem dX2_loadProduct_21 : decode cX2_loadProduct 21 = .ok (.if_icmp .ge 45, 3) := by decide +kernel
theorem dX2_loadProduct_24 : decode cX2_loadProduct 24 = .ok (.iload 4, 2) := by decide +kernel
theorem dX2_loadProduct_26 : decode cX2_loadProduct 26 = .ok (.aload_n 2, 1) := by decide +kernel
theorem dX2_loadProduct_27 : decode cX2_loadProduct 27 = .ok (.arraylength, 1) := by decide +kernel
theorem dX2_loadProduct_28 : decode cX2_loadProduct 28 = .ok (.if_icmp .ge 38, 3) := by decide +kernel
theorem dX2_loadProduct_31 : decode cX2_loadProduct 31 = .ok (.aload_n 2, 1) := by decide +kernel
theorem dX2_loadProduct_32 : decode cX2_loadProduct 32 = .ok (.iload 4, 2) := by decide +kernel
theorem dX2_loadProduct_34 : decode cX2_loadProduct 34 = .ok (.iaload, 1) := by decide +kernel
theorem dX2_loadProduct_35 : decode cX2_loadProduct 35 = .ok (.istore 5, 2) := by decide +kernel
theorem dX2_loadProduct_37 : decode cX2_loadProduct 37 = .ok (.iload 5, 2) := by decide +kernel
theorem dX2_loadProduct_39 : decode cX2_loadProduct 39 = .ok (.ifCond .lt 21, 3) := by decide +kernel
theorem dX2_loadProduct_42 : decode cX2_loadProduct 42 = .ok (.iload 5, 2) := by decide +kernel
theorem dX2_loadProduct_44 : decode cX2_loadProduct 44 = .ok (.bipush 120, 2) := by decide +kernel
theorem dX2_loadProduct_46 : decode cX2_loadProduct 46 = .ok (.if_icmp .ge 14, 3) := by decide +kernel
theorem dX2_loadProduct_49 : decode cX2_loadProduct 49 = .ok (.aload_n 0, 1) := by decide +kernel
theorem dX2_loadProduct_50 : decode cX2_loadProduct 50 = .ok (.getfield 24, 3) := by decide +kernel
theorem dX2_loadProduct_53 : decode cX2_loadProduct 53 = .ok (.iload 5, 2) := by decide +kernel
theorem dX2_loadProduct_55 : decode cX2_loadProduct 55 = .ok (.aload_n 1, 1) := by decide +kernel
theorem dX2_loadProduct_56 : decode cX2_loadProduct 56 = .ok (.iload 4, 2) := by decide +kernel
theorem dX2_loadProduct_58 : decode cX2_loadProduct 58 = .ok (.iaload, 1) := by decide +kernel
theorem dX2_loadProduct_59 : decode cX2_loadProduct 59 = .ok (.iastore, 1) := by decide +kernel
theorem dX2_loadProduct_60 : decode cX2_loadProduct 60 = .ok (.iinc 4 1, 3) := by decide +kernel
theorem dX2_loadProduct_63 : decode cX2_loadProduct 63 = .ok (.goto (-52), 3) := by decide +kernel
theorem dX2_loadProduct_66 : decode cX2_loadProduct 66 = .ok (.return_, 1) := by decide +kernel
theorem dX2_insertLine_0 : decode cX2_insertLine 0 = .ok (.iconst 0, 1) := by decide +kernel
theorem dX2_insertLine_1 : decode cX2_insertLine 1 = .ok (.istore_n 3, 1) := by decide +kernel
theorem dX2_insertLine_2 : decode cX2_insertLine 2 = .ok (.iload_n 3, 1) := by decide +kernel
theorem dX2_insertLine_3 : decode cX2_insertLine 3 = .ok (.iload_n 1, 1) := by decide +kernel
theorem dX2_insertLine_4 : decode cX2_insertLine 4 = .ok (.if_icmp .ge 51, 3) := by decide +kernel
theorem dX2_insertLine_7 : decode cX2_insertLine 7 = .ok (.aload_n 0, 1) := by decide +kernel
theorem dX2_insertLine_8 : decode cX2_insertLine 8 = .ok (.getfield 24, 3) := by decide +kernel
theorem dX2_insertLine_11 : decode cX2_insertLine 11 = .ok (.iload_n 3, 1) := by decide +kernel
theorem dX2_insertLine_12 : decode cX2_insertLine 12 = .ok (.iaload, 1) := by decide +kernel
theorem dX2_insertLine_13 : decode cX2_insertLine 13 = .ok (.ifCond .eq 20, 3) := by decide +kernel
theorem dX2_insertLine_16 : decode cX2_insertLine 16 = .ok (.aload_n 0, 1) := by decide +kernel
theorem dX2_insertLine_17 : decode cX2_insertLine 17 = .ok (.getfield 20, 3) := by decide +kernel
theorem dX2_insertLine_20 : decode cX2_insertLine 20 = .ok (.iload_n 3, 1) := by decide +kernel
theorem dX2_insertLine_21 : decode cX2_insertLine 21 = .ok (.iaload, 1) := by decide +kernel
theorem dX2_insertLine_22 : decode cX2_insertLine 22 = .ok (.ifCond .ne 11, 3) := by decide +kernel
theorem dX2_insertLine_25 : decode cX2_insertLine 25 = .ok (.aload_n 0, 1) := by decide +kernel
theorem dX2_insertLine_26 : decode cX2_insertLine 26 = .ok (.iload_n 3, 1) := by decide +kernel
theorem dX2_insertLine_27 : decode cX2_insertLine 27 = .ok (.iload_n 1, 1) := by decide +kernel
theorem dX2_insertLine_28 : decode cX2_insertLine 28 = .ok (.aload_n 2, 1) := by decide +kernel
theorem dX2_insertLine_29 : decode cX2_insertLine 29 = .ok (.invokevirtual 121, 3) := by decide +kernel
theorem dX2_insertLine_32 : decode cX2_insertLine 32 = .ok (.return_, 1) := by decide +kernel
theorem dX2_insertLine_33 : decode cX2_insertLine 33 = .ok (.aload_n 0, 1) := by decide +kernel
theorem dX2_insertLine_34 : decode cX2_insertLine 34 = .ok (.getfield 24, 3) := by decide +kernel
theorem dX2_insertLine_37 : decode cX2_insertLine 37 = .ok (.iload_n 3, 1) := by decide +kernel
theorem dX2_insertLine_38 : decode cX2_insertLine 38 = .ok (.iaload, 1) := by decide +kernel
theorem dX2_insertLine_39 : decode cX2_insertLine 39 = .ok (.ifCond .eq 10, 3) := by decide +kernel
theorem dX2_insertLine_42 : decode cX2_insertLine 42 = .ok (.aload_n 0, 1) := by decide +kernel
theorem dX2_insertLine_43 : decode cX2_insertLine 43 = .ok (.iload_n 3, 1) := by decide +kernel
theorem dX2_insertLine_44 : decode cX2_insertLine 44 = .ok (.iload_n 1, 1) := by decide +kernel
theorem dX2_insertLine_45 : decode cX2_insertLine 45 = .ok (.aload_n 2, 1) := by decide +kernel
theorem dX2_insertLine_46 : decode cX2_insertLine 46 = .ok (.invokevirtual 100, 3) := by decide +kernel
theorem dX2_insertLine_49 : decode cX2_insertLine 49 = .ok (.iinc 3 1, 3) := by decide +kernel
theorem dX2_insertLine_52 : decode cX2_insertLine 52 = .ok (.goto (-50), 3) := by decide +kernel
theorem dX2_insertLine_55 : decode cX2_insertLine 55 = .ok (.return_, 1) := by decide +kernel
theorem dX2_storeRow_0 : decode cX2_storeRow 0 = .ok (.aload_n 3, 1) := by decide +kernel
theorem dX2_storeRow_1 : decode cX2_storeRow 1 = .ok (.aload_n 0, 1) := by decide +kernel
theorem dX2_storeRow_2 : decode cX2_storeRow 2 = .ok (.getfield 24, 3) := by decide +kernel
theorem dX2_storeRow_5 : decode cX2_storeRow 5 = .ok (.iload_n 1, 1) := by decide +kernel
theorem dX2_storeRow_6 : decode cX2_storeRow 6 = .ok (.iaload, 1) := by decide +kernel
theorem dX2_storeRow_7 : decode cX2_storeRow 7 = .ok (.invokevirtual 124, 3) := by decide +kernel
theorem dX2_storeRow_10 : decode cX2_storeRow 10 = .ok (.istore 4, 2) := by decide +kernel
theorem dX2_storeRow_12 : decode cX2_storeRow 12 = .ok (.iload_n 1, 1) := by decide +kernel
theorem dX2_storeRow_13 : decode cX2_storeRow 13 = .ok (.istore 5, 2) := by decide +kernel
theorem dX2_storeRow_15 : decode cX2_storeRow 15 = .ok (.iload 5, 2) := by decide +kernel
theorem dX2_storeRow_17 : decode cX2_storeRow 17 = .ok (.iload_n 2, 1) := by decide +kernel
theorem dX2_storeRow_18 : decode cX2_storeRow 18 = .ok (.if_icmp .ge 31, 3) := by decide +kernel
theorem dX2_storeRow_21 : decode cX2_storeRow 21 = .ok (.aload_n 0, 1) := by decide +kernel
theorem dX2_storeRow_22 : decode cX2_storeRow 22 = .ok (.getfield 17, 3) := by decide +kernel
theorem dX2_storeRow_25 : decode cX2_storeRow 25 = .ok (.iload_n 1, 1) := by decide +kernel
theorem dX2_storeRow_26 : decode cX2_storeRow 26 = .ok (.aaload, 1) := by decide +kernel
theorem dX2_storeRow_27 : decode cX2_storeRow 27 = .ok (.iload 5, 2) := by decide +kernel
theorem dX2_storeRow_29 : decode cX2_storeRow 29 = .ok (.aload_n 3, 1) := by decide +kernel
theorem dX2_storeRow_30 : decode cX2_storeRow 30 = .ok (.aload_n 0, 1) := by decide +kernel
theorem dX2_storeRow_31 : decode cX2_storeRow 31 = .ok (.getfield 24, 3) := by decide +kernel
theorem dX2_storeRow_34 : decode cX2_storeRow 34 = .ok (.iload 5, 2) := by decide +kernel
theorem dX2_storeRow_36 : decode cX2_storeRow 36 = .ok (.iaload, 1) := by decide +kernel
theorem dX2_storeRow_37 : decode cX2_storeRow 37 = .ok (.iload 4, 2) := by decide +kernel
theorem dX2_storeRow_39 : decode cX2_storeRow 39 = .ok (.invokevirtual 129, 3) := by decide +kernel
theorem dX2_storeRow_42 : decode cX2_storeRow 42 = .ok (.iastore, 1) := by decide +kernel
theorem dX2_storeRow_43 : decode cX2_storeRow 43 = .ok (.iinc 5 1, 3) := by decide +kernel
theorem dX2_storeRow_46 : decode cX2_storeRow 46 = .ok (.goto (-31), 3) := by decide +kernel
theorem dX2_storeRow_49 : decode cX2_storeRow 49 = .ok (.aload_n 0, 1) := by decide +kernel
theorem dX2_storeRow_50 : decode cX2_storeRow 50 = .ok (.getfield 20, 3) := by decide +kernel
theorem dX2_storeRow_53 : decode cX2_storeRow 53 = .ok (.iload_n 1, 1) := by decide +kernel
theorem dX2_storeRow_54 : decode cX2_storeRow 54 = .ok (.iconst 2, 1) := by decide +kernel
theorem dX2_storeRow_55 : decode cX2_storeRow 55 = .ok (.iastore, 1) := by decide +kernel
theorem dX2_storeRow_56 : decode cX2_storeRow 56 = .ok (.return_, 1) := by decide +kernel
theorem dX2_subtractRow_0 : decode cX2_subtractRow 0 = .ok (.aload_n 0, 1) := by decide +kernel
theorem dX2_subtractRow_1 : decode cX2_subtractRow 1 = .ok (.getfield 17, 3) := by decide +kernel
theorem dX2_subtractRow_4 : decode cX2_subtractRow 4 = .ok (.iload_n 1, 1) := by decide +kernel
theorem dX2_subtractRow_5 : decode cX2_subtractRow 5 = .ok (.aaload, 1) := by decide +kernel
theorem dX2_subtractRow_6 : decode cX2_subtractRow 6 = .ok (.astore 4, 2) := by decide +kernel
theorem dX2_subtractRow_8 : decode cX2_subtractRow 8 = .ok (.aload_n 3, 1) := by decide +kernel
theorem dX2_subtractRow_9 : decode cX2_subtractRow 9 = .ok (.aload_n 0, 1) := by decide +kernel
theorem dX2_subtractRow_10 : decode cX2_subtractRow 10 = .ok (.getfield 24, 3) := by decide +kernel
theorem dX2_subtractRow_13 : decode cX2_subtractRow 13 = .ok (.iload_n 1, 1) := by decide +kernel
theorem dX2_subtractRow_14 : decode cX2_subtractRow 14 = .ok (.iaload, 1) := by decide +kernel
theorem dX2_subtractRow_15 : decode cX2_subtractRow 15 = .ok (.invokevirtual 132, 3) := by decide +kernel
theorem dX2_subtractRow_18 : decode cX2_subtractRow 18 = .ok (.istore 5, 2) := by decide +kernel
theorem dX2_subtractRow_20 : decode cX2_subtractRow 20 = .ok (.iload_n 1, 1) := by decide +kernel
theorem dX2_subtractRow_21 : decode cX2_subtractRow 21 = .ok (.istore 6, 2) := by decide +kernel
theorem dX2_subtractRow_23 : decode cX2_subtractRow 23 = .ok (.iload 6, 2) := by decide +kernel
theorem dX2_subtractRow_25 : decode cX2_subtractRow 25 = .ok (.iload_n 2, 1) := by decide +kernel
theorem dX2_subtractRow_26 : decode cX2_subtractRow 26 = .ok (.if_icmp .ge 42, 3) := by decide +kernel
theorem dX2_subtractRow_29 : decode cX2_subtractRow 29 = .ok (.aload 4, 2) := by decide +kernel
theorem dX2_subtractRow_31 : decode cX2_subtractRow 31 = .ok (.iload 6, 2) := by decide +kernel
theorem dX2_subtractRow_33 : decode cX2_subtractRow 33 = .ok (.iaload, 1) := by decide +kernel
theorem dX2_subtractRow_34 : decode cX2_subtractRow 34 = .ok (.ifCond .eq 28, 3) := by decide +kernel
theorem dX2_subtractRow_37 : decode cX2_subtractRow 37 = .ok (.aload_n 0, 1) := by decide +kernel
theorem dX2_subtractRow_38 : decode cX2_subtractRow 38 = .ok (.getfield 24, 3) := by decide +kernel
theorem dX2_subtractRow_41 : decode cX2_subtractRow 41 = .ok (.iload 6, 2) := by decide +kernel
theorem dX2_subtractRow_43 : decode cX2_subtractRow 43 = .ok (.aload_n 3, 1) := by decide +kernel
theorem dX2_subtractRow_44 : decode cX2_subtractRow 44 = .ok (.aload_n 0, 1) := by decide +kernel
theorem dX2_subtractRow_45 : decode cX2_subtractRow 45 = .ok (.getfield 24, 3) := by decide +kernel
theorem dX2_subtractRow_48 : decode cX2_subtractRow 48 = .ok (.iload 6, 2) := by decide +kernel
theorem dX2_subtractRow_50 : decode cX2_subtractRow 50 = .ok (.iaload, 1) := by decide +kernel
theorem dX2_subtractRow_51 : decode cX2_subtractRow 51 = .ok (.iload 5, 2) := by decide +kernel
theorem dX2_subtractRow_53 : decode cX2_subtractRow 53 = .ok (.aload 4, 2) := by decide +kernel
theorem dX2_subtractRow_55 : decode cX2_subtractRow 55 = .ok (.iload 6, 2) := by decide +kernel
theorem dX2_subtractRow_57 : decode cX2_subtractRow 57 = .ok (.iaload, 1) := by decide +kernel
theorem dX2_subtractRow_58 : decode cX2_subtractRow 58 = .ok (.invokevirtual 135, 3) := by decide +kernel
theorem dX2_subtractRow_61 : decode cX2_subtractRow 61 = .ok (.iastore, 1) := by decide +kernel
theorem dX2_subtractRow_62 : decode cX2_subtractRow 62 = .ok (.iinc 6 1, 3) := by decide +kernel
theorem dX2_subtractRow_65 : decode cX2_subtractRow 65 = .ok (.goto (-42), 3) := by decide +kernel
theorem dX2_subtractRow_68 : decode cX2_subtractRow 68 = .ok (.return_, 1) := by decide +kernel
theorem dX2_markNoCorner_0 : decode cX2_markNoCorner 0 = .ok (.iload_n 1, 1) := by decide +kernel
theorem dX2_markNoCorner_1 : decode cX2_markNoCorner 1 = .ok (.ifCond .lt 16, 3) := by decide +kernel
theorem dX2_markNoCorner_4 : decode cX2_markNoCorner 4 = .ok (.iload_n 1, 1) := by decide +kernel
theorem dX2_markNoCorner_5 : decode cX2_markNoCorner 5 = .ok (.bipush 120, 2) := by decide +kernel
theorem dX2_markNoCorner_7 : decode cX2_markNoCorner 7 = .ok (.if_icmp .ge 10, 3) := by decide +kernel
theorem dX2_markNoCorner_10 : decode cX2_markNoCorner 10 = .ok (.aload_n 0, 1) := by decide +kernel
theorem dX2_markNoCorner_11 : decode cX2_markNoCorner 11 = .ok (.getfield 20, 3) := by decide +kernel
theorem dX2_markNoCorner_14 : decode cX2_markNoCorner 14 = .ok (.iload_n 1, 1) := by decide +kernel
theorem dX2_markNoCorner_15 : decode cX2_markNoCorner 15 = .ok (.iconst 1, 1) := by decide +kernel
theorem dX2_markNoCorner_16 : decode cX2_markNoCorner 16 = .ok (.iastore, 1) := by decide +kernel
theorem dX2_markNoCorner_17 : decode cX2_markNoCorner 17 = .ok (.return_, 1) := by decide +kernel
