theorem dX10_init_0 : decode cX10_init 0 = .ok (.aload_n 0, 1) := by decide +kernel
theorem dX10_init_1 : decode cX10_init 1 = .ok (.invokespecial 1, 3) := by decide +kernel
theorem dX10_init_4 : decode cX10_init 4 = .ok (.aload_n 0, 1) := by decide +kernel
theorem dX10_init_5 : decode cX10_init 5 = .ok (.iconst 2, 1) := by decide +kernel
theorem dX10_init_6 : decode cX10_init 6 = .ok (.putfield 7, 3) := by decide +kernel
theorem dX10_init_9 : decode cX10_init 9 = .ok (.aload_n 0, 1) := by decide +kernel
theorem dX10_init_10 : decode cX10_init 10 = .ok (.sipush 32003, 3) := by decide +kernel
theorem dX10_init_13 : decode cX10_init 13 = .ok (.putfield 13, 3) := by decide +kernel
theorem dX10_init_16 : decode cX10_init 16 = .ok (.aload_n 0, 1) := by decide +kernel
theorem dX10_init_17 : decode cX10_init 17 = .ok (.iconst 3, 1) := by decide +kernel
theorem dX10_init_18 : decode cX10_init 18 = .ok (.newarray .int, 2) := by decide +kernel
theorem dX10_init_20 : decode cX10_init 20 = .ok (.dup, 1) := by decide +kernel
theorem dX10_init_21 : decode cX10_init 21 = .ok (.iconst 0, 1) := by decide +kernel
theorem dX10_init_22 : decode cX10_init 22 = .ok (.iconst 1, 1) := by decide +kernel
theorem dX10_init_23 : decode cX10_init 23 = .ok (.iastore, 1) := by decide +kernel
theorem dX10_init_24 : decode cX10_init 24 = .ok (.dup, 1) := by decide +kernel
theorem dX10_init_25 : decode cX10_init 25 = .ok (.iconst 1, 1) := by decide +kernel
theorem dX10_init_26 : decode cX10_init 26 = .ok (.iconst 1, 1) := by decide +kernel
theorem dX10_init_27 : decode cX10_init 27 = .ok (.iastore, 1) := by decide +kernel
theorem dX10_init_28 : decode cX10_init 28 = .ok (.dup, 1) := by decide +kernel
theorem dX10_init_29 : decode cX10_init 29 = .ok (.iconst 2, 1) := by decide +kernel
theorem dX10_init_30 : decode cX10_init 30 = .ok (.iconst 1, 1) := by decide +kernel
theorem dX10_init_31 : decode cX10_init 31 = .ok (.iastore, 1) := by decide +kernel
theorem dX10_init_32 : decode cX10_init 32 = .ok (.putfield 16, 3) := by decide +kernel
theorem dX10_init_35 : decode cX10_init 35 = .ok (.aload_n 0, 1) := by decide +kernel
theorem dX10_init_36 : decode cX10_init 36 = .ok (.sipush 300, 3) := by decide +kernel
theorem dX10_init_39 : decode cX10_init 39 = .ok (.newarray .int, 2) := by decide +kernel
theorem dX10_init_41 : decode cX10_init 41 = .ok (.putfield 20, 3) := by decide +kernel
theorem dX10_init_44 : decode cX10_init 44 = .ok (.aload_n 0, 1) := by decide +kernel
theorem dX10_init_45 : decode cX10_init 45 = .ok (.sipush 18000, 3) := by decide +kernel
theorem dX10_init_48 : decode cX10_init 48 = .ok (.newarray .int, 2) := by decide +kernel
theorem dX10_init_50 : decode cX10_init 50 = .ok (.putfield 23, 3) := by decide +kernel
theorem dX10_init_53 : decode cX10_init 53 = .ok (.aload_n 0, 1) := by decide +kernel
theorem dX10_init_54 : decode cX10_init 54 = .ok (.ldc 26, 2) := by decide +kernel
theorem dX10_init_56 : decode cX10_init 56 = .ok (.newarray .int, 2) := by decide +kernel
theorem dX10_init_58 : decode cX10_init 58 = .ok (.putfield 27, 3) := by decide +kernel
theorem dX10_init_61 : decode cX10_init 61 = .ok (.aload_n 0, 1) := by decide +kernel
theorem dX10_init_62 : decode cX10_init 62 = .ok (.sipush 4000, 3) := by decide +kernel
theorem dX10_init_65 : decode cX10_init 65 = .ok (.newarray .int, 2) := by decide +kernel
theorem dX10_init_67 : decode cX10_init 67 = .ok (.putfield 30, 3) := by decide +kernel
theorem dX10_init_70 : decode cX10_init 70 = .ok (.aload_n 0, 1) := by decide +kernel
theorem dX10_init_71 : decode cX10_init 71 = .ok (.sipush 12000, 3) := by decide +kernel
theorem dX10_init_74 : decode cX10_init 74 = .ok (.newarray .int, 2) := by decide +kernel
theorem dX10_init_76 : decode cX10_init 76 = .ok (.putfield 33, 3) := by decide +kernel
theorem dX10_init_79 : decode cX10_init 79 = .ok (.aload_n 0, 1) := by decide +kernel
theorem dX10_init_80 : decode cX10_init 80 = .ok (.sipush 200, 3) := by decide +kernel
theorem dX10_init_83 : decode cX10_init 83 = .ok (.newarray .byte, 2) := by decide +kernel
theorem dX10_init_85 : decode cX10_init 85 = .ok (.putfield 36, 3) := by decide +kernel
theorem dX10_init_88 : decode cX10_init 88 = .ok (.aload_n 0, 1) := by decide +kernel
theorem dX10_init_89 : decode cX10_init 89 = .ok (.iconst (-1), 1) := by decide +kernel
theorem dX10_init_90 : decode cX10_init 90 = .ok (.putfield 40, 3) := by decide +kernel
theorem dX10_init_93 : decode cX10_init 93 = .ok (.aload_n 0, 1) := by decide +kernel
theorem dX10_init_94 : decode cX10_init 94 = .ok (.iconst 3, 1) := by decide +kernel
theorem dX10_init_95 : decode cX10_init 95 = .ok (.newarray .int, 2) := by decide +kernel
theorem dX10_init_97 : decode cX10_init 97 = .ok (.putfield 43, 3) := by decide +kernel
theorem dX10_init_100 : decode cX10_init 100 = .ok (.aload_n 0, 1) := by decide +kernel
theorem dX10_init_101 : decode cX10_init 101 = .ok (.sipush 2000, 3) := by decide +kernel
theorem dX10_init_104 : decode cX10_init 104 = .ok (.newarray .int, 2) := by decide +kernel
theorem dX10_init_106 : decode cX10_init 106 = .ok (.putfield 46, 3) := by decide +kernel
theorem dX10_init_109 : decode cX10_init 109 = .ok (.aload_n 0, 1) := by decide +kernel
theorem dX10_init_110 : decode cX10_init 110 = .ok (.sipush 200, 3) := by decide +kernel
theorem dX10_init_113 : decode cX10_init 113 = .ok (.newarray .int, 2) := by decide +kernel
theorem dX10_init_115 : decode cX10_init 115 = .ok (.putfield 49, 3) := by decide +kernel
theorem dX10_init_118 : decode cX10_init 118 = .ok (.aload_n 0, 1) := by decide +kernel
theorem dX10_init_119 : decode cX10_init 119 = .ok (.sipush 3000, 3) := by decide +kernel
theorem dX10_init_122 : decode cX10_init 122 = .ok (.newarray .int, 2) := by decide +kernel
theorem dX10_init_124 : decode cX10_init 124 = .ok (.putfield 52, 3) := by decide +kernel
theorem dX10_init_127 : decode cX10_init 127 = .ok (.aload_n 0, 1) := by decide +kernel
theorem dX10_init_128 : decode cX10_init 128 = .ok (.sipush 14400, 3) := by decide +kernel
theorem dX10_init_131 : decode cX10_init 131 = .ok (.newarray .int, 2) := by decide +kernel
theorem dX10_init_133 : decode cX10_init 133 = .ok (.putfield 55, 3) := by decide +kernel
theorem dX10_init_136 : decode cX10_init 136 = .ok (.aload_n 0, 1) := by decide +kernel
theorem dX10_init_137 : decode cX10_init 137 = .ok (.bipush 120, 2) := by decide +kernel
theorem dX10_init_139 : decode cX10_init 139 = .ok (.newarray .boolean, 2) := by decide +kernel
theorem dX10_init_141 : decode cX10_init 141 = .ok (.putfield 58, 3) := by decide +kernel
theorem dX10_init_144 : decode cX10_init 144 = .ok (.aload_n 0, 1) := by decide +kernel
theorem dX10_init_145 : decode cX10_init 145 = .ok (.bipush 120, 2) := by decide +kernel
theorem dX10_init_147 : decode cX10_init 147 = .ok (.newarray .int, 2) := by decide +kernel
theorem dX10_init_149 : decode cX10_init 149 = .ok (.putfield 62, 3) := by decide +kernel
theorem dX10_init_152 : decode cX10_init 152 = .ok (.return_, 1) := by decide +kernel
theorem dX10_isIn_0 : decode cX10_isIn 0 = .ok (.lload_n 1, 1) := by decide +kernel
theorem dX10_isIn_1 : decode cX10_isIn 1 = .ok (.lload_n 3, 1) := by decide +kernel
theorem dX10_isIn_2 : decode cX10_isIn 2 = .ok (.lcmp, 1) := by decide +kernel
theorem dX10_isIn_3 : decode cX10_isIn 3 = .ok (.ifCond .lt 14, 3) := by decide +kernel
theorem dX10_isIn_6 : decode cX10_isIn 6 = .ok (.lload_n 1, 1) := by decide +kernel
theorem dX10_isIn_7 : decode cX10_isIn 7 = .ok (.lload 5, 2) := by decide +kernel
theorem dX10_isIn_9 : decode cX10_isIn 9 = .ok (.lcmp, 1) := by decide +kernel
theorem dX10_isIn_10 : decode cX10_isIn 10 = .ok (.ifCond .gt 7, 3) := by decide +kernel
theorem dX10_isIn_13 : decode cX10_isIn 13 = .ok (.iconst 1, 1) := by decide +kernel
theorem dX10_isIn_14 : decode cX10_isIn 14 = .ok (.goto 4, 3) := by decide +kernel
theorem dX10_isIn_17 : decode cX10_isIn 17 = .ok (.iconst 0, 1) := by decide +kernel
theorem dX10_isIn_18 : decode cX10_isIn 18 = .ok (.ireturn, 1) := by decide +kernel
theorem dX10_has_0 : decode cX10_has 0 = .ok (.iload_n 1, 1) := by decide +kernel
theorem dX10_has_1 : decode cX10_has 1 = .ok (.iload_n 2, 1) := by decide +kernel
theorem dX10_has_2 : decode cX10_has 2 = .ok (.ishr, 1) := by decide +kernel
theorem dX10_has_3 : decode cX10_has 3 = .ok (.iconst 1, 1) := by decide +kernel
theorem dX10_has_4 : decode cX10_has 4 = .ok (.iand, 1) := by decide +kernel
theorem dX10_has_5 : decode cX10_has 5 = .ok (.iconst 1, 1) := by decide +kernel
theorem dX10_has_6 : decode cX10_has 6 = .ok (.if_icmp .ne 7, 3) := by decide +kernel
theorem dX10_has_9 : decode cX10_has 9 = .ok (.iconst 1, 1) := by decide +kernel
theorem dX10_has_10 : decode cX10_has 10 = .ok (.goto 4, 3) := by decide +kernel
theorem dX10_has_13 : decode cX10_has 13 = .ok (.iconst 0, 1) := by decide +kernel
theorem dX10_has_14 : decode cX10_has 14 = .ok (.ireturn, 1) := by decide +kernel
theorem dX10_modulo_0 : decode cX10_modulo 0 = .ok (.lload_n 1, 1) := by decide +kernel
theorem dX10_modulo_1 : decode cX10_modulo 1 = .ok (.aload_n 0, 1) := by decide +kernel
theorem dX10_modulo_2 : decode cX10_modulo 2 = .ok (.getfield 13, 3) := by decide +kernel
theorem dX10_modulo_5 : decode cX10_modulo 5 = .ok (.i2l, 1) := by decide +kernel
theorem dX10_modulo_6 : decode cX10_modulo 6 = .ok (.lrem, 1) := by decide +kernel
theorem dX10_modulo_7 : decode cX10_modulo 7 = .ok (.aload_n 0, 1) := by decide +kernel
theorem dX10_modulo_8 : decode cX10_modulo 8 = .ok (.getfield 13, 3) := by decide +kernel
theorem dX10_modulo_11 : decode cX10_modulo 11 = .ok (.i2l, 1) := by decide +kernel
theorem dX10_modulo_12 : decode cX10_modulo 12 = .ok (.ladd, 1) := by decide +kernel
theorem dX10_modulo_13 : decode cX10_modulo 13 = .ok (.aload_n 0, 1) := by decide +kernel
theorem dX10_modulo_14 : decode cX10_modulo 14 = .ok (.getfield 13, 3) := by decide +kernel
theorem dX10_modulo_17 : decode cX10_modulo 17 = .ok (.i2l, 1) := by decide +kernel
theorem dX10_modulo_18 : decode cX10_modulo 18 = .ok (.lrem, 1) := by decide +kernel
theorem dX10_modulo_19 : decode cX10_modulo 19 = .ok (.l2i, 1) := by decide +kernel
theorem dX10_modulo_20 : decode cX10_modulo 20 = .ok (.ireturn, 1) := by decide +kernel
theorem dX10_turned_0 : decode cX10_turned 0 = .ok (.iload_n 1, 1) := by decide +kernel
theorem dX10_turned_1 : decode cX10_turned 1 = .ok (.i2l, 1) := by decide +kernel
theorem dX10_turned_2 : decode cX10_turned 2 = .ok (.lstore_n 2, 1) := by decide +kernel
theorem dX10_turned_3 : decode cX10_turned 3 = .ok (.lconst 1, 1) := by decide +kernel
theorem dX10_turned_4 : decode cX10_turned 4 = .ok (.lstore 4, 2) := by decide +kernel
theorem dX10_turned_6 : decode cX10_turned 6 = .ok (.aload_n 0, 1) := by decide +kernel
theorem dX10_turned_7 : decode cX10_turned 7 = .ok (.getfield 13, 3) := by decide +kernel
theorem dX10_turned_10 : decode cX10_turned 10 = .ok (.iconst 2, 1) := by decide +kernel
theorem dX10_turned_11 : decode cX10_turned 11 = .ok (.isub, 1) := by decide +kernel
theorem dX10_turned_12 : decode cX10_turned 12 = .ok (.istore 6, 2) := by decide +kernel
theorem dX10_turned_14 : decode cX10_turned 14 = .ok (.iload 6, 2) := by decide +kernel
theorem dX10_turned_16 : decode cX10_turned 16 = .ok (.ifCond .le 42, 3) := by decide +kernel
theorem dX10_turned_19 : decode cX10_turned 19 = .ok (.iload 6, 2) := by decide +kernel
theorem dX10_turned_21 : decode cX10_turned 21 = .ok (.iconst 2, 1) := by decide +kernel
theorem dX10_turned_22 : decode cX10_turned 22 = .ok (.irem, 1) := by decide +kernel
theorem dX10_turned_23 : decode cX10_turned 23 = .ok (.iconst 1, 1) := by decide +kernel
theorem dX10_turned_24 : decode cX10_turned 24 = .ok (.if_icmp .ne 15, 3) := by decide +kernel
theorem dX10_turned_27 : decode cX10_turned 27 = .ok (.lload 4, 2) := by decide +kernel
theorem dX10_turned_29 : decode cX10_turned 29 = .ok (.lload_n 2, 1) := by decide +kernel
theorem dX10_turned_30 : decode cX10_turned 30 = .ok (.lmul, 1) := by decide +kernel
theorem dX10_turned_31 : decode cX10_turned 31 = .ok (.aload_n 0, 1) := by decide +kernel
theorem dX10_turned_32 : decode cX10_turned 32 = .ok (.getfield 13, 3) := by decide +kernel
theorem dX10_turned_35 : decode cX10_turned 35 = .ok (.i2l, 1) := by decide +kernel
theorem dX10_turned_36 : decode cX10_turned 36 = .ok (.lrem, 1) := by decide +kernel
theorem dX10_turned_37 : decode cX10_turned 37 = .ok (.lstore 4, 2) := by decide +kernel
theorem dX10_turned_39 : decode cX10_turned 39 = .ok (.lload_n 2, 1) := by decide +kernel
theorem dX10_turned_40 : decode cX10_turned 40 = .ok (.lload_n 2, 1) := by decide +kernel
theorem dX10_turned_41 : decode cX10_turned 41 = .ok (.lmul, 1) := by decide +kernel
theorem dX10_turned_42 : decode cX10_turned 42 = .ok (.aload_n 0, 1) := by decide +kernel
theorem dX10_turned_43 : decode cX10_turned 43 = .ok (.getfield 13, 3) := by decide +kernel
theorem dX10_turned_46 : decode cX10_turned 46 = .ok (.i2l, 1) := by decide +kernel
theorem dX10_turned_47 : decode cX10_turned 47 = .ok (.lrem, 1) := by decide +kernel
theorem dX10_turned_48 : decode cX10_turned 48 = .ok (.lstore_n 2, 1) := by decide +kernel
theorem dX10_turned_49 : decode cX10_turned 49 = .ok (.iload 6, 2) := by decide +kernel
theorem dX10_turned_51 : decode cX10_turned 51 = .ok (.iconst 2, 1) := by decide +kernel
theorem dX10_turned_52 : decode cX10_turned 52 = .ok (.idiv, 1) := by decide +kernel
theorem dX10_turned_53 : decode cX10_turned 53 = .ok (.istore 6, 2) := by decide +kernel
theorem dX10_turned_55 : decode cX10_turned 55 = .ok (.goto (-41), 3) := by decide +kernel
theorem dX10_turned_58 : decode cX10_turned 58 = .ok (.lload 4, 2) := by decide +kernel
theorem dX10_turned_60 : decode cX10_turned 60 = .ok (.l2i, 1) := by decide +kernel
theorem dX10_turned_61 : decode cX10_turned 61 = .ok (.ireturn, 1) := by decide +kernel
theorem dX10_at_0 : decode cX10_at 0 = .ok (.bipush 60, 2) := by decide +kernel
theorem dX10_at_2 : decode cX10_at 2 = .ok (.iload_n 1, 1) := by decide +kernel
theorem dX10_at_3 : decode cX10_at 3 = .ok (.imul, 1) := by decide +kernel
theorem dX10_at_4 : decode cX10_at 4 = .ok (.iload_n 2, 1) := by decide +kernel
theorem dX10_at_5 : decode cX10_at 5 = .ok (.iadd, 1) := by decide +kernel
theorem dX10_at_6 : decode cX10_at 6 = .ok (.ireturn, 1) := by decide +kernel
theorem dX10_power_0 : decode cX10_power 0 = .ok (.aload_n 0, 1) := by decide +kernel
theorem dX10_power_1 : decode cX10_power 1 = .ok (.getfield 27, 3) := by decide +kernel
theorem dX10_power_4 : decode cX10_power 4 = .ok (.iconst 3, 1) := by decide +kernel
theorem dX10_power_5 : decode cX10_power 5 = .ok (.aload_n 0, 1) := by decide +kernel
theorem dX10_power_6 : decode cX10_power 6 = .ok (.iload_n 1, 1) := by decide +kernel
theorem dX10_power_7 : decode cX10_power 7 = .ok (.iload_n 2, 1) := by decide +kernel
theorem dX10_power_8 : decode cX10_power 8 = .ok (.invokevirtual 68, 3) := by decide +kernel
theorem dX10_power_11 : decode cX10_power 11 = .ok (.imul, 1) := by decide +kernel
theorem dX10_power_12 : decode cX10_power 12 = .ok (.iload_n 3, 1) := by decide +kernel
theorem dX10_power_13 : decode cX10_power 13 = .ok (.iadd, 1) := by decide +kernel
theorem dX10_power_14 : decode cX10_power 14 = .ok (.iaload, 1) := by decide +kernel
theorem dX10_power_15 : decode cX10_power 15 = .ok (.ireturn, 1) := by decide +kernel
theorem dX10_degreeOf_0 : decode cX10_degreeOf 0 = .ok (.aload_n 0, 1) := by decide +kernel
theorem dX10_degreeOf_1 : decode cX10_degreeOf 1 = .ok (.getfield 16, 3) := by decide +kernel
theorem dX10_degreeOf_4 : decode cX10_degreeOf 4 = .ok (.iconst 0, 1) := by decide +kernel
theorem dX10_degreeOf_5 : decode cX10_degreeOf 5 = .ok (.iaload, 1) := by decide +kernel
theorem dX10_degreeOf_6 : decode cX10_degreeOf 6 = .ok (.iload_n 1, 1) := by decide +kernel
theorem dX10_degreeOf_7 : decode cX10_degreeOf 7 = .ok (.imul, 1) := by decide +kernel
theorem dX10_degreeOf_8 : decode cX10_degreeOf 8 = .ok (.aload_n 0, 1) := by decide +kernel
theorem dX10_degreeOf_9 : decode cX10_degreeOf 9 = .ok (.getfield 7, 3) := by decide +kernel
theorem dX10_degreeOf_12 : decode cX10_degreeOf 12 = .ok (.iconst 1, 1) := by decide +kernel
theorem dX10_degreeOf_13 : decode cX10_degreeOf 13 = .ok (.if_icmp .le 14, 3) := by decide +kernel
theorem dX10_degreeOf_16 : decode cX10_degreeOf 16 = .ok (.aload_n 0, 1) := by decide +kernel
theorem dX10_degreeOf_17 : decode cX10_degreeOf 17 = .ok (.getfield 16, 3) := by decide +kernel
theorem dX10_degreeOf_20 : decode cX10_degreeOf 20 = .ok (.iconst 1, 1) := by decide +kernel
theorem dX10_degreeOf_21 : decode cX10_degreeOf 21 = .ok (.iaload, 1) := by decide +kernel
theorem dX10_degreeOf_22 : decode cX10_degreeOf 22 = .ok (.iload_n 2, 1) := by decide +kernel
theorem dX10_degreeOf_23 : decode cX10_degreeOf 23 = .ok (.imul, 1) := by decide +kernel
theorem dX10_degreeOf_24 : decode cX10_degreeOf 24 = .ok (.goto 4, 3) := by decide +kernel
theorem dX10_degreeOf_27 : decode cX10_degreeOf 27 = .ok (.iconst 0, 1) := by decide +kernel
theorem dX10_degreeOf_28 : decode cX10_degreeOf 28 = .ok (.iadd, 1) := by decide +kernel
theorem dX10_degreeOf_29 : decode cX10_degreeOf 29 = .ok (.aload_n 0, 1) := by decide +kernel
theorem dX10_degreeOf_30 : decode cX10_degreeOf 30 = .ok (.getfield 7, 3) := by decide +kernel
theorem dX10_degreeOf_33 : decode cX10_degreeOf 33 = .ok (.iconst 2, 1) := by decide +kernel
theorem dX10_degreeOf_34 : decode cX10_degreeOf 34 = .ok (.if_icmp .le 14, 3) := by decide +kernel
theorem dX10_degreeOf_37 : decode cX10_degreeOf 37 = .ok (.aload_n 0, 1) := by decide +kernel
theorem dX10_degreeOf_38 : decode cX10_degreeOf 38 = .ok (.getfield 16, 3) := by decide +kernel
theorem dX10_degreeOf_41 : decode cX10_degreeOf 41 = .ok (.iconst 2, 1) := by decide +kernel
theorem dX10_degreeOf_42 : decode cX10_degreeOf 42 = .ok (.iaload, 1) := by decide +kernel
theorem dX10_degreeOf_43 : decode cX10_degreeOf 43 = .ok (.iload_n 3, 1) := by decide +kernel
theorem dX10_degreeOf_44 : decode cX10_degreeOf 44 = .ok (.imul, 1) := by decide +kernel
theorem dX10_degreeOf_45 : decode cX10_degreeOf 45 = .ok (.goto 4, 3) := by decide +kernel
theorem dX10_degreeOf_48 : decode cX10_degreeOf 48 = .ok (.iconst 0, 1) := by decide +kernel
theorem dX10_degreeOf_49 : decode cX10_degreeOf 49 = .ok (.iadd, 1) := by decide +kernel
theorem dX10_degreeOf_50 : decode cX10_degreeOf 50 = .ok (.ireturn, 1) := by decide +kernel
theorem dX10_degree_0 : decode cX10_degree 0 = .ok (.aload_n 0, 1) := by decide +kernel
theorem dX10_degree_1 : decode cX10_degree 1 = .ok (.aload_n 0, 1) := by decide +kernel
theorem dX10_degree_2 : decode cX10_degree 2 = .ok (.iload_n 1, 1) := by decide +kernel
theorem dX10_degree_3 : decode cX10_degree 3 = .ok (.iload_n 2, 1) := by decide +kernel
theorem dX10_degree_4 : decode cX10_degree 4 = .ok (.iconst 0, 1) := by decide +kernel
theorem dX10_degree_5 : decode cX10_degree 5 = .ok (.invokevirtual 72, 3) := by decide +kernel
theorem dX10_degree_8 : decode cX10_degree 8 = .ok (.aload_n 0, 1) := by decide +kernel
theorem dX10_degree_9 : decode cX10_degree 9 = .ok (.iload_n 1, 1) := by decide +kernel
theorem dX10_degree_10 : decode cX10_degree 10 = .ok (.iload_n 2, 1) := by decide +kernel
theorem dX10_degree_11 : decode cX10_degree 11 = .ok (.iconst 1, 1) := by decide +kernel
theorem dX10_degree_12 : decode cX10_degree 12 = .ok (.invokevirtual 72, 3) := by decide +kernel
theorem dX10_degree_15 : decode cX10_degree 15 = .ok (.aload_n 0, 1) := by decide +kernel
theorem dX10_degree_16 : decode cX10_degree 16 = .ok (.iload_n 1, 1) := by decide +kernel
theorem dX10_degree_17 : decode cX10_degree 17 = .ok (.iload_n 2, 1) := by decide +kernel
theorem dX10_degree_18 : decode cX10_degree 18 = .ok (.iconst 2, 1) := by decide +kernel
theorem dX10_degree_19 : decode cX10_degree 19 = .ok (.invokevirtual 72, 3) := by decide +kernel
theorem dX10_degree_22 : decode cX10_degree 22 = .ok (.invokevirtual 76, 3) := by decide +kernel
theorem dX10_degree_25 : decode cX10_degree 25 = .ok (.ireturn, 1) := by decide +kernel
theorem dX10_compares_0 : decode cX10_compares 0 = .ok (.aload_n 0, 1) := by decide +kernel
theorem dX10_compares_1 : decode cX10_compares 1 = .ok (.iload_n 1, 1) := by decide +kernel
theorem dX10_compares_2 : decode cX10_compares 2 = .ok (.iload_n 2, 1) := by decide +kernel
theorem dX10_compares_3 : decode cX10_compares 3 = .ok (.iload_n 3, 1) := by decide +kernel
theorem dX10_compares_4 : decode cX10_compares 4 = .ok (.invokevirtual 76, 3) := by decide +kernel
theorem dX10_compares_7 : decode cX10_compares 7 = .ok (.aload_n 0, 1) := by decide +kernel
theorem dX10_compares_8 : decode cX10_compares 8 = .ok (.iload 4, 2) := by decide +kernel
theorem dX10_compares_10 : decode cX10_compares 10 = .ok (.iload 5, 2) := by decide +kernel
theorem dX10_compares_12 : decode cX10_compares 12 = .ok (.iload 6, 2) := by decide +kernel
theorem dX10_compares_14 : decode cX10_compares 14 = .ok (.invokevirtual 76, 3) := by decide +kernel
theorem dX10_compares_17 : decode cX10_compares 17 = .ok (.isub, 1) := by decide +kernel
theorem dX10_compares_18 : decode cX10_compares 18 = .ok (.istore 7, 2) := by decide +kernel
theorem dX10_compares_20 : decode cX10_compares 20 = .ok (.iload 7, 2) := by decide +kernel
theorem dX10_compares_22 : decode cX10_compares 22 = .ok (.ifCond .eq 6, 3) := by decide +kernel
theorem dX10_compares_25 : decode cX10_compares 25 = .ok (.iload 7, 2) := by decide +kernel
theorem dX10_compares_27 : decode cX10_compares 27 = .ok (.ireturn, 1) := by decide +kernel
theorem dX10_compares_28 : decode cX10_compares 28 = .ok (.iload_n 1, 1) := by decide +kernel
theorem dX10_compares_29 : decode cX10_compares 29 = .ok (.iload 4, 2) := by decide +kernel
theorem dX10_compares_31 : decode cX10_compares 31 = .ok (.if_icmp .eq 8, 3) := by decide +kernel
theorem dX10_compares_34 : decode cX10_compares 34 = .ok (.iload 4, 2) := by decide +kernel
theorem dX10_compares_36 : decode cX10_compares 36 = .ok (.iload_n 1, 1) := by decide +kernel
theorem dX10_compares_37 : decode cX10_compares 37 = .ok (.isub, 1) := by decide +kernel
theorem dX10_compares_38 : decode cX10_compares 38 = .ok (.ireturn, 1) := by decide +kernel
theorem dX10_compares_39 : decode cX10_compares 39 = .ok (.iload_n 2, 1) := by decide +kernel
theorem dX10_compares_40 : decode cX10_compares 40 = .ok (.iload 5, 2) := by decide +kernel
theorem dX10_compares_42 : decode cX10_compares 42 = .ok (.if_icmp .eq 10, 3) := by decide +kernel
theorem dX10_compares_45 : decode cX10_compares 45 = .ok (.iload 5, 2) := by decide +kernel
theorem dX10_compares_47 : decode cX10_compares 47 = .ok (.iload_n 2, 1) := by decide +kernel
theorem dX10_compares_48 : decode cX10_compares 48 = .ok (.isub, 1) := by decide +kernel
theorem dX10_compares_49 : decode cX10_compares 49 = .ok (.goto 7, 3) := by decide +kernel
theorem dX10_compares_52 : decode cX10_compares 52 = .ok (.iload 6, 2) := by decide +kernel
theorem dX10_compares_54 : decode cX10_compares 54 = .ok (.iload_n 3, 1) := by decide +kernel
theorem dX10_compares_55 : decode cX10_compares 55 = .ok (.isub, 1) := by decide +kernel
theorem dX10_compares_56 : decode cX10_compares 56 = .ok (.ireturn, 1) := by decide +kernel
theorem dX10_low_0 : decode cX10_low 0 = .ok (.aload_n 0, 1) := by decide +kernel
theorem dX10_low_1 : decode cX10_low 1 = .ok (.iload_n 1, 1) := by decide +kernel
theorem dX10_low_2 : decode cX10_low 2 = .ok (.iconst 0, 1) := by decide +kernel
theorem dX10_low_3 : decode cX10_low 3 = .ok (.invokevirtual 79, 3) := by decide +kernel
theorem dX10_low_6 : decode cX10_low 6 = .ok (.ireturn, 1) := by decide +kernel
theorem dX10_high_0 : decode cX10_high 0 = .ok (.aload_n 0, 1) := by decide +kernel
theorem dX10_high_1 : decode cX10_high 1 = .ok (.iload_n 1, 1) := by decide +kernel
theorem dX10_high_2 : decode cX10_high 2 = .ok (.aload_n 0, 1) := by decide +kernel
theorem dX10_high_3 : decode cX10_high 3 = .ok (.getfield 20, 3) := by decide +kernel
theorem dX10_high_6 : decode cX10_high 6 = .ok (.iload_n 1, 1) := by decide +kernel
theorem dX10_high_7 : decode cX10_high 7 = .ok (.iaload, 1) := by decide +kernel
theorem dX10_high_8 : decode cX10_high 8 = .ok (.iconst 1, 1) := by decide +kernel
theorem dX10_high_9 : decode cX10_high 9 = .ok (.isub, 1) := by decide +kernel
theorem dX10_high_10 : decode cX10_high 10 = .ok (.invokevirtual 79, 3) := by decide +kernel
theorem dX10_high_13 : decode cX10_high 13 = .ok (.ireturn, 1) := by decide +kernel
theorem dX10_ecart_0 : decode cX10_ecart 0 = .ok (.aload_n 0, 1) := by decide +kernel
theorem dX10_ecart_1 : decode cX10_ecart 1 = .ok (.iload_n 1, 1) := by decide +kernel
theorem dX10_ecart_2 : decode cX10_ecart 2 = .ok (.invokevirtual 82, 3) := by decide +kernel
theorem dX10_ecart_5 : decode cX10_ecart 5 = .ok (.aload_n 0, 1) := by decide +kernel
theorem dX10_ecart_6 : decode cX10_ecart 6 = .ok (.iload_n 1, 1) := by decide +kernel
theorem dX10_ecart_7 : decode cX10_ecart 7 = .ok (.invokevirtual 86, 3) := by decide +kernel
theorem dX10_ecart_10 : decode cX10_ecart 10 = .ok (.isub, 1) := by decide +kernel
theorem dX10_ecart_11 : decode cX10_ecart 11 = .ok (.ireturn, 1) := by decide +kernel
theorem dX10_copies_0 : decode cX10_copies 0 = .ok (.aload_n 0, 1) := by decide +kernel
theorem dX10_copies_1 : decode cX10_copies 1 = .ok (.getfield 20, 3) := by decide +kernel
theorem dX10_copies_4 : decode cX10_copies 4 = .ok (.iload_n 2, 1) := by decide +kernel
theorem dX10_copies_5 : decode cX10_copies 5 = .ok (.aload_n 0, 1) := by decide +kernel
theorem dX10_copies_6 : decode cX10_copies 6 = .ok (.getfield 20, 3) := by decide +kernel
theorem dX10_copies_9 : decode cX10_copies 9 = .ok (.iload_n 1, 1) := by decide +kernel
theorem dX10_copies_10 : decode cX10_copies 10 = .ok (.iaload, 1) := by decide +kernel
theorem dX10_copies_11 : decode cX10_copies 11 = .ok (.iastore, 1) := by decide +kernel
theorem dX10_copies_12 : decode cX10_copies 12 = .ok (.iconst 0, 1) := by decide +kernel
theorem dX10_copies_13 : decode cX10_copies 13 = .ok (.istore_n 3, 1) := by decide +kernel
theorem dX10_copies_14 : decode cX10_copies 14 = .ok (.iload_n 3, 1) := by decide +kernel
theorem dX10_copies_15 : decode cX10_copies 15 = .ok (.aload_n 0, 1) := by decide +kernel
theorem dX10_copies_16 : decode cX10_copies 16 = .ok (.getfield 20, 3) := by decide +kernel
theorem dX10_copies_19 : decode cX10_copies 19 = .ok (.iload_n 1, 1) := by decide +kernel
theorem dX10_copies_20 : decode cX10_copies 20 = .ok (.iaload, 1) := by decide +kernel
theorem dX10_copies_21 : decode cX10_copies 21 = .ok (.if_icmp .ge 70, 3) := by decide +kernel
theorem dX10_copies_24 : decode cX10_copies 24 = .ok (.aload_n 0, 1) := by decide +kernel
theorem dX10_copies_25 : decode cX10_copies 25 = .ok (.getfield 23, 3) := by decide +kernel
theorem dX10_copies_28 : decode cX10_copies 28 = .ok (.aload_n 0, 1) := by decide +kernel
theorem dX10_copies_29 : decode cX10_copies 29 = .ok (.iload_n 2, 1) := by decide +kernel
theorem dX10_copies_30 : decode cX10_copies 30 = .ok (.iload_n 3, 1) := by decide +kernel
theorem dX10_copies_31 : decode cX10_copies 31 = .ok (.invokevirtual 68, 3) := by decide +kernel
theorem dX10_copies_34 : decode cX10_copies 34 = .ok (.aload_n 0, 1) := by decide +kernel
theorem dX10_copies_35 : decode cX10_copies 35 = .ok (.getfield 23, 3) := by decide +kernel
theorem dX10_copies_38 : decode cX10_copies 38 = .ok (.aload_n 0, 1) := by decide +kernel
theorem dX10_copies_39 : decode cX10_copies 39 = .ok (.iload_n 1, 1) := by decide +kernel
theorem dX10_copies_40 : decode cX10_copies 40 = .ok (.iload_n 3, 1) := by decide +kernel
theorem dX10_copies_41 : decode cX10_copies 41 = .ok (.invokevirtual 68, 3) := by decide +kernel
theorem dX10_copies_44 : decode cX10_copies 44 = .ok (.iaload, 1) := by decide +kernel
theorem dX10_copies_45 : decode cX10_copies 45 = .ok (.iastore, 1) := by decide +kernel
theorem dX10_copies_46 : decode cX10_copies 46 = .ok (.iconst 0, 1) := by decide +kernel
theorem dX10_copies_47 : decode cX10_copies 47 = .ok (.istore 4, 2) := by decide +kernel
theorem dX10_copies_49 : decode cX10_copies 49 = .ok (.iload 4, 2) := by decide +kernel
theorem dX10_copies_51 : decode cX10_copies 51 = .ok (.iconst 3, 1) := by decide +kernel
theorem dX10_copies_52 : decode cX10_copies 52 = .ok (.if_icmp .ge 33, 3) := by decide +kernel
theorem dX10_copies_55 : decode cX10_copies 55 = .ok (.aload_n 0, 1) := by decide +kernel
theorem dX10_copies_56 : decode cX10_copies 56 = .ok (.getfield 27, 3) := by decide +kernel
theorem dX10_copies_59 : decode cX10_copies 59 = .ok (.iconst 3, 1) := by decide +kernel
theorem dX10_copies_60 : decode cX10_copies 60 = .ok (.aload_n 0, 1) := by decide +kernel
theorem dX10_copies_61 : decode cX10_copies 61 = .ok (.iload_n 2, 1) := by decide +kernel
theorem dX10_copies_62 : decode cX10_copies 62 = .ok (.iload_n 3, 1) := by decide +kernel
theorem dX10_copies_63 : decode cX10_copies 63 = .ok (.invokevirtual 68, 3) := by decide +kernel
theorem dX10_copies_66 : decode cX10_copies 66 = .ok (.imul, 1) := by decide +kernel
theorem dX10_copies_67 : decode cX10_copies 67 = .ok (.iload 4, 2) := by decide +kernel
theorem dX10_copies_69 : decode cX10_copies 69 = .ok (.iadd, 1) := by decide +kernel
theorem dX10_copies_70 : decode cX10_copies 70 = .ok (.aload_n 0, 1) := by decide +kernel
theorem dX10_copies_71 : decode cX10_copies 71 = .ok (.iload_n 1, 1) := by decide +kernel
theorem dX10_copies_72 : decode cX10_copies 72 = .ok (.iload_n 3, 1) := by decide +kernel
theorem dX10_copies_73 : decode cX10_copies 73 = .ok (.iload 4, 2) := by decide +kernel
theorem dX10_copies_75 : decode cX10_copies 75 = .ok (.invokevirtual 72, 3) := by decide +kernel
theorem dX10_copies_78 : decode cX10_copies 78 = .ok (.iastore, 1) := by decide +kernel
theorem dX10_copies_79 : decode cX10_copies 79 = .ok (.iinc 4 1, 3) := by decide +kernel
theorem dX10_copies_82 : decode cX10_copies 82 = .ok (.goto (-33), 3) := by decide +kernel
theorem dX10_copies_85 : decode cX10_copies 85 = .ok (.iinc 3 1, 3) := by decide +kernel
theorem dX10_copies_88 : decode cX10_copies 88 = .ok (.goto (-74), 3) := by decide +kernel
theorem dX10_copies_91 : decode cX10_copies 91 = .ok (.return_, 1) := by decide +kernel
theorem dX10_heapCompares_0 : decode cX10_heapCompares 0 = .ok (.aload_n 0, 1) := by decide +kernel
theorem dX10_heapCompares_1 : decode cX10_heapCompares 1 = .ok (.aload_n 0, 1) := by decide +kernel
theorem dX10_heapCompares_2 : decode cX10_heapCompares 2 = .ok (.getfield 33, 3) := by decide +kernel
theorem dX10_heapCompares_5 : decode cX10_heapCompares 5 = .ok (.iconst 3, 1) := by decide +kernel
theorem dX10_heapCompares_6 : decode cX10_heapCompares 6 = .ok (.iload_n 1, 1) := by decide +kernel
theorem dX10_heapCompares_7 : decode cX10_heapCompares 7 = .ok (.imul, 1) := by decide +kernel
theorem dX10_heapCompares_8 : decode cX10_heapCompares 8 = .ok (.iaload, 1) := by decide +kernel
theorem dX10_heapCompares_9 : decode cX10_heapCompares 9 = .ok (.aload_n 0, 1) := by decide +kernel
theorem dX10_heapCompares_10 : decode cX10_heapCompares 10 = .ok (.getfield 33, 3) := by decide +kernel
theorem dX10_heapCompares_13 : decode cX10_heapCompares 13 = .ok (.iconst 3, 1) := by decide +kernel
theorem dX10_heapCompares_14 : decode cX10_heapCompares 14 = .ok (.iload_n 1, 1) := by decide +kernel
theorem dX10_heapCompares_15 : decode cX10_heapCompares 15 = .ok (.imul, 1) := by decide +kernel
theorem dX10_heapCompares_16 : decode cX10_heapCompares 16 = .ok (.iconst 1, 1) := by decide +kernel
theorem dX10_heapCompares_17 : decode cX10_heapCompares 17 = .ok (.iadd, 1) := by decide +kernel
theorem dX10_heapCompares_18 : decode cX10_heapCompares 18 = .ok (.iaload, 1) := by decide +kernel
theorem dX10_heapCompares_19 : decode cX10_heapCompares 19 = .ok (.aload_n 0, 1) := by decide +kernel
theorem dX10_heapCompares_20 : decode cX10_heapCompares 20 = .ok (.getfield 33, 3) := by decide +kernel
theorem dX10_heapCompares_23 : decode cX10_heapCompares 23 = .ok (.iconst 3, 1) := by decide +kernel
theorem dX10_heapCompares_24 : decode cX10_heapCompares 24 = .ok (.iload_n 1, 1) := by decide +kernel
theorem dX10_heapCompares_25 : decode cX10_heapCompares 25 = .ok (.imul, 1) := by decide +kernel
theorem dX10_heapCompares_26 : decode cX10_heapCompares 26 = .ok (.iconst 2, 1) := by decide +kernel
theorem dX10_heapCompares_27 : decode cX10_heapCompares 27 = .ok (.iadd, 1) := by decide +kernel
theorem dX10_heapCompares_28 : decode cX10_heapCompares 28 = .ok (.iaload, 1) := by decide +kernel
theorem dX10_heapCompares_29 : decode cX10_heapCompares 29 = .ok (.iload_n 2, 1) := by decide +kernel
theorem dX10_heapCompares_30 : decode cX10_heapCompares 30 = .ok (.iload_n 3, 1) := by decide +kernel
theorem dX10_heapCompares_31 : decode cX10_heapCompares 31 = .ok (.iload 4, 2) := by decide +kernel
theorem dX10_heapCompares_33 : decode cX10_heapCompares 33 = .ok (.invokevirtual 89, 3) := by decide +kernel
theorem dX10_heapCompares_36 : decode cX10_heapCompares 36 = .ok (.ireturn, 1) := by decide +kernel
theorem dX10_heaps_0 : decode cX10_heaps 0 = .ok (.iload_n 1, 1) := by decide +kernel
theorem dX10_heaps_1 : decode cX10_heaps 1 = .ok (.ifCond .ne 4, 3) := by decide +kernel
theorem dX10_heaps_4 : decode cX10_heaps 4 = .ok (.return_, 1) := by decide +kernel
theorem dX10_heaps_5 : decode cX10_heaps 5 = .ok (.iconst 0, 1) := by decide +kernel
theorem dX10_heaps_6 : decode cX10_heaps 6 = .ok (.istore 5, 2) := by decide +kernel
theorem dX10_heaps_8 : decode cX10_heaps 8 = .ok (.aload_n 0, 1) := by decide +kernel
theorem dX10_heaps_9 : decode cX10_heaps 9 = .ok (.getfield 93, 3) := by decide +kernel
theorem dX10_heaps_12 : decode cX10_heaps 12 = .ok (.istore 6, 2) := by decide +kernel
theorem dX10_heaps_14 : decode cX10_heaps 14 = .ok (.iload 5, 2) := by decide +kernel
theorem dX10_heaps_16 : decode cX10_heaps 16 = .ok (.iload 6, 2) := by decide +kernel
theorem dX10_heaps_18 : decode cX10_heaps 18 = .ok (.if_icmp .ge 41, 3) := by decide +kernel
theorem dX10_heaps_21 : decode cX10_heaps 21 = .ok (.iload 5, 2) := by decide +kernel
theorem dX10_heaps_23 : decode cX10_heaps 23 = .ok (.iload 6, 2) := by decide +kernel
theorem dX10_heaps_25 : decode cX10_heaps 25 = .ok (.iadd, 1) := by decide +kernel
theorem dX10_heaps_26 : decode cX10_heaps 26 = .ok (.iconst 2, 1) := by decide +kernel
theorem dX10_heaps_27 : decode cX10_heaps 27 = .ok (.idiv, 1) := by decide +kernel
theorem dX10_heaps_28 : decode cX10_heaps 28 = .ok (.istore 7, 2) := by decide +kernel
theorem dX10_heaps_30 : decode cX10_heaps 30 = .ok (.aload_n 0, 1) := by decide +kernel
theorem dX10_heaps_31 : decode cX10_heaps 31 = .ok (.iload 7, 2) := by decide +kernel
theorem dX10_heaps_33 : decode cX10_heaps 33 = .ok (.iload_n 2, 1) := by decide +kernel
theorem dX10_heaps_34 : decode cX10_heaps 34 = .ok (.iload_n 3, 1) := by decide +kernel
theorem dX10_heaps_35 : decode cX10_heaps 35 = .ok (.iload 4, 2) := by decide +kernel
theorem dX10_heaps_37 : decode cX10_heaps 37 = .ok (.invokevirtual 96, 3) := by decide +kernel
theorem dX10_heaps_40 : decode cX10_heaps 40 = .ok (.ifCond .ge 12, 3) := by decide +kernel
theorem dX10_heaps_43 : decode cX10_heaps 43 = .ok (.iload 7, 2) := by decide +kernel
theorem dX10_heaps_45 : decode cX10_heaps 45 = .ok (.iconst 1, 1) := by decide +kernel
theorem dX10_heaps_46 : decode cX10_heaps 46 = .ok (.iadd, 1) := by decide +kernel
theorem dX10_heaps_47 : decode cX10_heaps 47 = .ok (.istore 5, 2) := by decide +kernel
theorem dX10_heaps_49 : decode cX10_heaps 49 = .ok (.goto 7, 3) := by decide +kernel
theorem dX10_heaps_52 : decode cX10_heaps 52 = .ok (.iload 7, 2) := by decide +kernel
theorem dX10_heaps_54 : decode cX10_heaps 54 = .ok (.istore 6, 2) := by decide +kernel
theorem dX10_heaps_56 : decode cX10_heaps 56 = .ok (.goto (-42), 3) := by decide +kernel
theorem dX10_heaps_59 : decode cX10_heaps 59 = .ok (.iload 5, 2) := by decide +kernel
theorem dX10_heaps_61 : decode cX10_heaps 61 = .ok (.aload_n 0, 1) := by decide +kernel
theorem dX10_heaps_62 : decode cX10_heaps 62 = .ok (.getfield 93, 3) := by decide +kernel
theorem dX10_heaps_65 : decode cX10_heaps 65 = .ok (.if_icmp .ge 38, 3) := by decide +kernel
theorem dX10_heaps_68 : decode cX10_heaps 68 = .ok (.aload_n 0, 1) := by decide +kernel
theorem dX10_heaps_69 : decode cX10_heaps 69 = .ok (.iload 5, 2) := by decide +kernel
theorem dX10_heaps_71 : decode cX10_heaps 71 = .ok (.iload_n 2, 1) := by decide +kernel
theorem dX10_heaps_72 : decode cX10_heaps 72 = .ok (.iload_n 3, 1) := by decide +kernel
theorem dX10_heaps_73 : decode cX10_heaps 73 = .ok (.iload 4, 2) := by decide +kernel
theorem dX10_heaps_75 : decode cX10_heaps 75 = .ok (.invokevirtual 96, 3) := by decide +kernel
theorem dX10_heaps_78 : decode cX10_heaps 78 = .ok (.ifCond .ne 25, 3) := by decide +kernel
theorem dX10_heaps_81 : decode cX10_heaps 81 = .ok (.aload_n 0, 1) := by decide +kernel
theorem dX10_heaps_82 : decode cX10_heaps 82 = .ok (.getfield 30, 3) := by decide +kernel
theorem dX10_heaps_85 : decode cX10_heaps 85 = .ok (.iload 5, 2) := by decide +kernel
theorem dX10_heaps_87 : decode cX10_heaps 87 = .ok (.aload_n 0, 1) := by decide +kernel
theorem dX10_heaps_88 : decode cX10_heaps 88 = .ok (.getfield 30, 3) := by decide +kernel
theorem dX10_heaps_91 : decode cX10_heaps 91 = .ok (.iload 5, 2) := by decide +kernel
theorem dX10_heaps_93 : decode cX10_heaps 93 = .ok (.iaload, 1) := by decide +kernel
theorem dX10_heaps_94 : decode cX10_heaps 94 = .ok (.iload_n 1, 1) := by decide +kernel
theorem dX10_heaps_95 : decode cX10_heaps 95 = .ok (.iadd, 1) := by decide +kernel
theorem dX10_heaps_96 : decode cX10_heaps 96 = .ok (.aload_n 0, 1) := by decide +kernel
theorem dX10_heaps_97 : decode cX10_heaps 97 = .ok (.getfield 13, 3) := by decide +kernel
theorem dX10_heaps_100 : decode cX10_heaps 100 = .ok (.irem, 1) := by decide +kernel
theorem dX10_heaps_101 : decode cX10_heaps 101 = .ok (.iastore, 1) := by decide +kernel
theorem dX10_heaps_102 : decode cX10_heaps 102 = .ok (.return_, 1) := by decide +kernel
theorem dX10_heaps_103 : decode cX10_heaps 103 = .ok (.aload_n 0, 1) := by decide +kernel
theorem dX10_heaps_104 : decode cX10_heaps 104 = .ok (.getfield 93, 3) := by decide +kernel
theorem dX10_heaps_107 : decode cX10_heaps 107 = .ok (.istore 7, 2) := by decide +kernel
theorem dX10_heaps_109 : decode cX10_heaps 109 = .ok (.iload 7, 2) := by decide +kernel
theorem dX10_heaps_111 : decode cX10_heaps 111 = .ok (.iload 5, 2) := by decide +kernel
theorem dX10_heaps_113 : decode cX10_heaps 113 = .ok (.if_icmp .le 66, 3) := by decide +kernel
theorem dX10_heaps_116 : decode cX10_heaps 116 = .ok (.aload_n 0, 1) := by decide +kernel
theorem dX10_heaps_117 : decode cX10_heaps 117 = .ok (.getfield 30, 3) := by decide +kernel
theorem dX10_heaps_120 : decode cX10_heaps 120 = .ok (.iload 7, 2) := by decide +kernel
theorem dX10_heaps_122 : decode cX10_heaps 122 = .ok (.aload_n 0, 1) := by decide +kernel
theorem dX10_heaps_123 : decode cX10_heaps 123 = .ok (.getfield 30, 3) := by decide +kernel
theorem dX10_heaps_126 : decode cX10_heaps 126 = .ok (.iload 7, 2) := by decide +kernel
theorem dX10_heaps_128 : decode cX10_heaps 128 = .ok (.iconst 1, 1) := by decide +kernel
theorem dX10_heaps_129 : decode cX10_heaps 129 = .ok (.isub, 1) := by decide +kernel
theorem dX10_heaps_130 : decode cX10_heaps 130 = .ok (.iaload, 1) := by decide +kernel
theorem dX10_heaps_131 : decode cX10_heaps 131 = .ok (.iastore, 1) := by decide +kernel
theorem dX10_heaps_132 : decode cX10_heaps 132 = .ok (.iconst 0, 1) := by decide +kernel
theorem dX10_heaps_133 : decode cX10_heaps 133 = .ok (.istore 8, 2) := by decide +kernel
theorem dX10_heaps_135 : decode cX10_heaps 135 = .ok (.iload 8, 2) := by decide +kernel
theorem dX10_heaps_137 : decode cX10_heaps 137 = .ok (.iconst 3, 1) := by decide +kernel
theorem dX10_heaps_138 : decode cX10_heaps 138 = .ok (.if_icmp .ge 35, 3) := by decide +kernel
theorem dX10_heaps_141 : decode cX10_heaps 141 = .ok (.aload_n 0, 1) := by decide +kernel
theorem dX10_heaps_142 : decode cX10_heaps 142 = .ok (.getfield 33, 3) := by decide +kernel
theorem dX10_heaps_145 : decode cX10_heaps 145 = .ok (.iconst 3, 1) := by decide +kernel
theorem dX10_heaps_146 : decode cX10_heaps 146 = .ok (.iload 7, 2) := by decide +kernel
theorem dX10_heaps_148 : decode cX10_heaps 148 = .ok (.imul, 1) := by decide +kernel
theorem dX10_heaps_149 : decode cX10_heaps 149 = .ok (.iload 8, 2) := by decide +kernel
theorem dX10_heaps_151 : decode cX10_heaps 151 = .ok (.iadd, 1) := by decide +kernel
theorem dX10_heaps_152 : decode cX10_heaps 152 = .ok (.aload_n 0, 1) := by decide +kernel
theorem dX10_heaps_153 : decode cX10_heaps 153 = .ok (.getfield 33, 3) := by decide +kernel
theorem dX10_heaps_156 : decode cX10_heaps 156 = .ok (.iconst 3, 1) := by decide +kernel
theorem dX10_heaps_157 : decode cX10_heaps 157 = .ok (.iload 7, 2) := by decide +kernel
theorem dX10_heaps_159 : decode cX10_heaps 159 = .ok (.imul, 1) := by decide +kernel
theorem dX10_heaps_160 : decode cX10_heaps 160 = .ok (.iconst 3, 1) := by decide +kernel
theorem dX10_heaps_161 : decode cX10_heaps 161 = .ok (.isub, 1) := by decide +kernel
theorem dX10_heaps_162 : decode cX10_heaps 162 = .ok (.iload 8, 2) := by decide +kernel
theorem dX10_heaps_164 : decode cX10_heaps 164 = .ok (.iadd, 1) := by decide +kernel
theorem dX10_heaps_165 : decode cX10_heaps 165 = .ok (.iaload, 1) := by decide +kernel
theorem dX10_heaps_166 : decode cX10_heaps 166 = .ok (.iastore, 1) := by decide +kernel
theorem dX10_heaps_167 : decode cX10_heaps 167 = .ok (.iinc 8 1, 3) := by decide +kernel
theorem dX10_heaps_170 : decode cX10_heaps 170 = .ok (.goto (-35), 3) := by decide +kernel
theorem dX10_heaps_173 : decode cX10_heaps 173 = .ok (.iinc 7 (-1), 3) := by decide +kernel
theorem dX10_heaps_176 : decode cX10_heaps 176 = .ok (.goto (-67), 3) := by decide +kernel
theorem dX10_heaps_179 : decode cX10_heaps 179 = .ok (.aload_n 0, 1) := by decide +kernel
theorem dX10_heaps_180 : decode cX10_heaps 180 = .ok (.getfield 30, 3) := by decide +kernel
theorem dX10_heaps_183 : decode cX10_heaps 183 = .ok (.iload 5, 2) := by decide +kernel
theorem dX10_heaps_185 : decode cX10_heaps 185 = .ok (.iload_n 1, 1) := by decide +kernel
theorem dX10_heaps_186 : decode cX10_heaps 186 = .ok (.iastore, 1) := by decide +kernel
theorem dX10_heaps_187 : decode cX10_heaps 187 = .ok (.aload_n 0, 1) := by decide +kernel
theorem dX10_heaps_188 : decode cX10_heaps 188 = .ok (.getfield 33, 3) := by decide +kernel
theorem dX10_heaps_191 : decode cX10_heaps 191 = .ok (.iconst 3, 1) := by decide +kernel
theorem dX10_heaps_192 : decode cX10_heaps 192 = .ok (.iload 5, 2) := by decide +kernel
theorem dX10_heaps_194 : decode cX10_heaps 194 = .ok (.imul, 1) := by decide +kernel
theorem dX10_heaps_195 : decode cX10_heaps 195 = .ok (.iload_n 2, 1) := by decide +kernel
theorem dX10_heaps_196 : decode cX10_heaps 196 = .ok (.iastore, 1) := by decide +kernel
theorem dX10_heaps_197 : decode cX10_heaps 197 = .ok (.aload_n 0, 1) := by decide +kernel
theorem dX10_heaps_198 : decode cX10_heaps 198 = .ok (.getfield 33, 3) := by decide +kernel
theorem dX10_heaps_201 : decode cX10_heaps 201 = .ok (.iconst 3, 1) := by decide +kernel
theorem dX10_heaps_202 : decode cX10_heaps 202 = .ok (.iload 5, 2) := by decide +kernel
theorem dX10_heaps_204 : decode cX10_heaps 204 = .ok (.imul, 1) := by decide +kernel
theorem dX10_heaps_205 : decode cX10_heaps 205 = .ok (.iconst 1, 1) := by decide +kernel
theorem dX10_heaps_206 : decode cX10_heaps 206 = .ok (.iadd, 1) := by decide +kernel
theorem dX10_heaps_207 : decode cX10_heaps 207 = .ok (.iload_n 3, 1) := by decide +kernel
theorem dX10_heaps_208 : decode cX10_heaps 208 = .ok (.iastore, 1) := by decide +kernel
theorem dX10_heaps_209 : decode cX10_heaps 209 = .ok (.aload_n 0, 1) := by decide +kernel
theorem dX10_heaps_210 : decode cX10_heaps 210 = .ok (.getfield 33, 3) := by decide +kernel
theorem dX10_heaps_213 : decode cX10_heaps 213 = .ok (.iconst 3, 1) := by decide +kernel
theorem dX10_heaps_214 : decode cX10_heaps 214 = .ok (.iload 5, 2) := by decide +kernel
theorem dX10_heaps_216 : decode cX10_heaps 216 = .ok (.imul, 1) := by decide +kernel
theorem dX10_heaps_217 : decode cX10_heaps 217 = .ok (.iconst 2, 1) := by decide +kernel
theorem dX10_heaps_218 : decode cX10_heaps 218 = .ok (.iadd, 1) := by decide +kernel
theorem dX10_heaps_219 : decode cX10_heaps 219 = .ok (.iload 4, 2) := by decide +kernel
theorem dX10_heaps_221 : decode cX10_heaps 221 = .ok (.iastore, 1) := by decide +kernel
theorem dX10_heaps_222 : decode cX10_heaps 222 = .ok (.aload_n 0, 1) := by decide +kernel
theorem dX10_heaps_223 : decode cX10_heaps 223 = .ok (.aload_n 0, 1) := by decide +kernel
theorem dX10_heaps_224 : decode cX10_heaps 224 = .ok (.getfield 93, 3) := by decide +kernel
theorem dX10_heaps_227 : decode cX10_heaps 227 = .ok (.iconst 1, 1) := by decide +kernel
theorem dX10_heaps_228 : decode cX10_heaps 228 = .ok (.iadd, 1) := by decide +kernel
theorem dX10_heaps_229 : decode cX10_heaps 229 = .ok (.putfield 93, 3) := by decide +kernel
theorem dX10_heaps_232 : decode cX10_heaps 232 = .ok (.return_, 1) := by decide +kernel
theorem dX10_heapsRow_0 : decode cX10_heapsRow 0 = .ok (.iconst 0, 1) := by decide +kernel
theorem dX10_heapsRow_1 : decode cX10_heapsRow 1 = .ok (.istore 6, 2) := by decide +kernel
theorem dX10_heapsRow_3 : decode cX10_heapsRow 3 = .ok (.iload 6, 2) := by decide +kernel
theorem dX10_heapsRow_5 : decode cX10_heapsRow 5 = .ok (.aload_n 0, 1) := by decide +kernel
theorem dX10_heapsRow_6 : decode cX10_heapsRow 6 = .ok (.getfield 20, 3) := by decide +kernel
theorem dX10_heapsRow_9 : decode cX10_heapsRow 9 = .ok (.iload_n 1, 1) := by decide +kernel
theorem dX10_heapsRow_10 : decode cX10_heapsRow 10 = .ok (.iaload, 1) := by decide +kernel
theorem dX10_heapsRow_11 : decode cX10_heapsRow 11 = .ok (.if_icmp .ge 68, 3) := by decide +kernel
theorem dX10_heapsRow_14 : decode cX10_heapsRow 14 = .ok (.aload_n 0, 1) := by decide +kernel
theorem dX10_heapsRow_15 : decode cX10_heapsRow 15 = .ok (.aload_n 0, 1) := by decide +kernel
theorem dX10_heapsRow_16 : decode cX10_heapsRow 16 = .ok (.getfield 23, 3) := by decide +kernel
theorem dX10_heapsRow_19 : decode cX10_heapsRow 19 = .ok (.aload_n 0, 1) := by decide +kernel
theorem dX10_heapsRow_20 : decode cX10_heapsRow 20 = .ok (.iload_n 1, 1) := by decide +kernel
theorem dX10_heapsRow_21 : decode cX10_heapsRow 21 = .ok (.iload 6, 2) := by decide +kernel
theorem dX10_heapsRow_23 : decode cX10_heapsRow 23 = .ok (.invokevirtual 68, 3) := by decide +kernel
theorem dX10_heapsRow_26 : decode cX10_heapsRow 26 = .ok (.iaload, 1) := by decide +kernel
theorem dX10_heapsRow_27 : decode cX10_heapsRow 27 = .ok (.i2l, 1) := by decide +kernel
theorem dX10_heapsRow_28 : decode cX10_heapsRow 28 = .ok (.iload_n 2, 1) := by decide +kernel
theorem dX10_heapsRow_29 : decode cX10_heapsRow 29 = .ok (.i2l, 1) := by decide +kernel
theorem dX10_heapsRow_30 : decode cX10_heapsRow 30 = .ok (.lmul, 1) := by decide +kernel
theorem dX10_heapsRow_31 : decode cX10_heapsRow 31 = .ok (.aload_n 0, 1) := by decide +kernel
theorem dX10_heapsRow_32 : decode cX10_heapsRow 32 = .ok (.getfield 13, 3) := by decide +kernel
theorem dX10_heapsRow_35 : decode cX10_heapsRow 35 = .ok (.i2l, 1) := by decide +kernel
theorem dX10_heapsRow_36 : decode cX10_heapsRow 36 = .ok (.lrem, 1) := by decide +kernel
theorem dX10_heapsRow_37 : decode cX10_heapsRow 37 = .ok (.l2i, 1) := by decide +kernel
theorem dX10_heapsRow_38 : decode cX10_heapsRow 38 = .ok (.aload_n 0, 1) := by decide +kernel
theorem dX10_heapsRow_39 : decode cX10_heapsRow 39 = .ok (.iload_n 1, 1) := by decide +kernel
theorem dX10_heapsRow_40 : decode cX10_heapsRow 40 = .ok (.iload 6, 2) := by decide +kernel
theorem dX10_heapsRow_42 : decode cX10_heapsRow 42 = .ok (.iconst 0, 1) := by decide +kernel
theorem dX10_heapsRow_43 : decode cX10_heapsRow 43 = .ok (.invokevirtual 72, 3) := by decide +kernel
theorem dX10_heapsRow_46 : decode cX10_heapsRow 46 = .ok (.iload_n 3, 1) := by decide +kernel
theorem dX10_heapsRow_47 : decode cX10_heapsRow 47 = .ok (.iadd, 1) := by decide +kernel
theorem dX10_heapsRow_48 : decode cX10_heapsRow 48 = .ok (.aload_n 0, 1) := by decide +kernel
theorem dX10_heapsRow_49 : decode cX10_heapsRow 49 = .ok (.iload_n 1, 1) := by decide +kernel
theorem dX10_heapsRow_50 : decode cX10_heapsRow 50 = .ok (.iload 6, 2) := by decide +kernel
theorem dX10_heapsRow_52 : decode cX10_heapsRow 52 = .ok (.iconst 1, 1) := by decide +kernel
theorem dX10_heapsRow_53 : decode cX10_heapsRow 53 = .ok (.invokevirtual 72, 3) := by decide +kernel
theorem dX10_heapsRow_56 : decode cX10_heapsRow 56 = .ok (.iload 4, 2) := by decide +kernel
theorem dX10_heapsRow_58 : decode cX10_heapsRow 58 = .ok (.iadd, 1) := by decide +kernel
theorem dX10_heapsRow_59 : decode cX10_heapsRow 59 = .ok (.aload_n 0, 1) := by decide +kernel
theorem dX10_heapsRow_60 : decode cX10_heapsRow 60 = .ok (.iload_n 1, 1) := by decide +kernel
theorem dX10_heapsRow_61 : decode cX10_heapsRow 61 = .ok (.iload 6, 2) := by decide +kernel
theorem dX10_heapsRow_63 : decode cX10_heapsRow 63 = .ok (.iconst 2, 1) := by decide +kernel
theorem dX10_heapsRow_64 : decode cX10_heapsRow 64 = .ok (.invokevirtual 72, 3) := by decide +kernel
theorem dX10_heapsRow_67 : decode cX10_heapsRow 67 = .ok (.iload 5, 2) := by decide +kernel
theorem dX10_heapsRow_69 : decode cX10_heapsRow 69 = .ok (.iadd, 1) := by decide +kernel
theorem dX10_heapsRow_70 : decode cX10_heapsRow 70 = .ok (.invokevirtual 100, 3) := by decide +kernel
theorem dX10_heapsRow_73 : decode cX10_heapsRow 73 = .ok (.iinc 6 1, 3) := by decide +kernel
theorem dX10_heapsRow_76 : decode cX10_heapsRow 76 = .ok (.goto (-73), 3) := by decide +kernel
theorem dX10_heapsRow_79 : decode cX10_heapsRow 79 = .ok (.return_, 1) := by decide +kernel
theorem dX10_takes_0 : decode cX10_takes 0 = .ok (.iconst 0, 1) := by decide +kernel
theorem dX10_takes_1 : decode cX10_takes 1 = .ok (.istore_n 2, 1) := by decide +kernel
theorem dX10_takes_2 : decode cX10_takes 2 = .ok (.iconst 1, 1) := by decide +kernel
theorem dX10_takes_3 : decode cX10_takes 3 = .ok (.istore_n 3, 1) := by decide +kernel
theorem dX10_takes_4 : decode cX10_takes 4 = .ok (.iconst 0, 1) := by decide +kernel
theorem dX10_takes_5 : decode cX10_takes 5 = .ok (.istore 4, 2) := by decide +kernel
theorem dX10_takes_7 : decode cX10_takes 7 = .ok (.iload 4, 2) := by decide +kernel
theorem dX10_takes_9 : decode cX10_takes 9 = .ok (.aload_n 0, 1) := by decide +kernel
theorem dX10_takes_10 : decode cX10_takes 10 = .ok (.getfield 93, 3) := by decide +kernel
theorem dX10_takes_13 : decode cX10_takes 13 = .ok (.if_icmp .ge 68, 3) := by decide +kernel
theorem dX10_takes_16 : decode cX10_takes 16 = .ok (.aload_n 0, 1) := by decide +kernel
theorem dX10_takes_17 : decode cX10_takes 17 = .ok (.getfield 30, 3) := by decide +kernel
theorem dX10_takes_20 : decode cX10_takes 20 = .ok (.iload 4, 2) := by decide +kernel
theorem dX10_takes_22 : decode cX10_takes 22 = .ok (.iaload, 1) := by decide +kernel
theorem dX10_takes_23 : decode cX10_takes 23 = .ok (.ifCond .ne 6, 3) := by decide +kernel
theorem dX10_takes_26 : decode cX10_takes 26 = .ok (.goto 49, 3) := by decide +kernel
theorem dX10_takes_29 : decode cX10_takes 29 = .ok (.iload_n 2, 1) := by decide +kernel
theorem dX10_takes_30 : decode cX10_takes 30 = .ok (.iconst 1, 1) := by decide +kernel
theorem dX10_takes_31 : decode cX10_takes 31 = .ok (.iadd, 1) := by decide +kernel
theorem dX10_takes_32 : decode cX10_takes 32 = .ok (.istore_n 2, 1) := by decide +kernel
theorem dX10_takes_33 : decode cX10_takes 33 = .ok (.iconst 0, 1) := by decide +kernel
theorem dX10_takes_34 : decode cX10_takes 34 = .ok (.istore 5, 2) := by decide +kernel
theorem dX10_takes_36 : decode cX10_takes 36 = .ok (.iload 5, 2) := by decide +kernel
theorem dX10_takes_38 : decode cX10_takes 38 = .ok (.iconst 3, 1) := by decide +kernel
theorem dX10_takes_39 : decode cX10_takes 39 = .ok (.if_icmp .ge 36, 3) := by decide +kernel
theorem dX10_takes_42 : decode cX10_takes 42 = .ok (.iload_n 3, 1) := by decide +kernel
theorem dX10_takes_43 : decode cX10_takes 43 = .ok (.ifCond .eq 24, 3) := by decide +kernel
theorem dX10_takes_46 : decode cX10_takes 46 = .ok (.aload_n 0, 1) := by decide +kernel
theorem dX10_takes_47 : decode cX10_takes 47 = .ok (.getfield 33, 3) := by decide +kernel
theorem dX10_takes_50 : decode cX10_takes 50 = .ok (.iconst 3, 1) := by decide +kernel
theorem dX10_takes_51 : decode cX10_takes 51 = .ok (.iload 4, 2) := by decide +kernel
theorem dX10_takes_53 : decode cX10_takes 53 = .ok (.imul, 1) := by decide +kernel
theorem dX10_takes_54 : decode cX10_takes 54 = .ok (.iload 5, 2) := by decide +kernel
theorem dX10_takes_56 : decode cX10_takes 56 = .ok (.iadd, 1) := by decide +kernel
theorem dX10_takes_57 : decode cX10_takes 57 = .ok (.iaload, 1) := by decide +kernel
theorem dX10_takes_58 : decode cX10_takes 58 = .ok (.bipush 30, 2) := by decide +kernel
theorem dX10_takes_60 : decode cX10_takes 60 = .ok (.if_icmp .gt 7, 3) := by decide +kernel
theorem dX10_takes_63 : decode cX10_takes 63 = .ok (.iconst 1, 1) := by decide +kernel
theorem dX10_takes_64 : decode cX10_takes 64 = .ok (.goto 4, 3) := by decide +kernel
theorem dX10_takes_67 : decode cX10_takes 67 = .ok (.iconst 0, 1) := by decide +kernel
theorem dX10_takes_68 : decode cX10_takes 68 = .ok (.istore_n 3, 1) := by decide +kernel
theorem dX10_takes_69 : decode cX10_takes 69 = .ok (.iinc 5 1, 3) := by decide +kernel
theorem dX10_takes_72 : decode cX10_takes 72 = .ok (.goto (-36), 3) := by decide +kernel
theorem dX10_takes_75 : decode cX10_takes 75 = .ok (.iinc 4 1, 3) := by decide +kernel
theorem dX10_takes_78 : decode cX10_takes 78 = .ok (.goto (-71), 3) := by decide +kernel
theorem dX10_takes_81 : decode cX10_takes 81 = .ok (.iload_n 3, 1) := by decide +kernel
theorem dX10_takes_82 : decode cX10_takes 82 = .ok (.ifCond .eq 9, 3) := by decide +kernel
theorem dX10_takes_85 : decode cX10_takes 85 = .ok (.iload_n 2, 1) := by decide +kernel
theorem dX10_takes_86 : decode cX10_takes 86 = .ok (.bipush 60, 2) := by decide +kernel
theorem dX10_takes_88 : decode cX10_takes 88 = .ok (.if_icmp .le 5, 3) := by decide +kernel
theorem dX10_takes_91 : decode cX10_takes 91 = .ok (.iconst 0, 1) := by decide +kernel
theorem dX10_takes_92 : decode cX10_takes 92 = .ok (.ireturn, 1) := by decide +kernel
theorem dX10_takes_93 : decode cX10_takes 93 = .ok (.aload_n 0, 1) := by decide +kernel
theorem dX10_takes_94 : decode cX10_takes 94 = .ok (.getfield 20, 3) := by decide +kernel
theorem dX10_takes_97 : decode cX10_takes 97 = .ok (.iload_n 1, 1) := by decide +kernel
theorem dX10_takes_98 : decode cX10_takes 98 = .ok (.iconst 0, 1) := by decide +kernel
theorem dX10_takes_99 : decode cX10_takes 99 = .ok (.iastore, 1) := by decide +kernel
theorem dX10_takes_100 : decode cX10_takes 100 = .ok (.iconst 0, 1) := by decide +kernel
theorem dX10_takes_101 : decode cX10_takes 101 = .ok (.istore 4, 2) := by decide +kernel
theorem dX10_takes_103 : decode cX10_takes 103 = .ok (.iload 4, 2) := by decide +kernel
theorem dX10_takes_105 : decode cX10_takes 105 = .ok (.aload_n 0, 1) := by decide +kernel
theorem dX10_takes_106 : decode cX10_takes 106 = .ok (.getfield 93, 3) := by decide +kernel
theorem dX10_takes_109 : decode cX10_takes 109 = .ok (.if_icmp .ge 107, 3) := by decide +kernel
theorem dX10_takes_112 : decode cX10_takes 112 = .ok (.aload_n 0, 1) := by decide +kernel
theorem dX10_takes_113 : decode cX10_takes 113 = .ok (.getfield 30, 3) := by decide +kernel
theorem dX10_takes_116 : decode cX10_takes 116 = .ok (.iload 4, 2) := by decide +kernel
theorem dX10_takes_118 : decode cX10_takes 118 = .ok (.iaload, 1) := by decide +kernel
theorem dX10_takes_119 : decode cX10_takes 119 = .ok (.ifCond .ne 6, 3) := by decide +kernel
theorem dX10_takes_122 : decode cX10_takes 122 = .ok (.goto 88, 3) := by decide +kernel
theorem dX10_takes_125 : decode cX10_takes 125 = .ok (.aload_n 0, 1) := by decide +kernel
theorem dX10_takes_126 : decode cX10_takes 126 = .ok (.getfield 23, 3) := by decide +kernel
theorem dX10_takes_129 : decode cX10_takes 129 = .ok (.aload_n 0, 1) := by decide +kernel
theorem dX10_takes_130 : decode cX10_takes 130 = .ok (.iload_n 1, 1) := by decide +kernel
theorem dX10_takes_131 : decode cX10_takes 131 = .ok (.aload_n 0, 1) := by decide +kernel
theorem dX10_takes_132 : decode cX10_takes 132 = .ok (.getfield 20, 3) := by decide +kernel
theorem dX10_takes_135 : decode cX10_takes 135 = .ok (.iload_n 1, 1) := by decide +kernel
theorem dX10_takes_136 : decode cX10_takes 136 = .ok (.iaload, 1) := by decide +kernel
theorem dX10_takes_137 : decode cX10_takes 137 = .ok (.invokevirtual 68, 3) := by decide +kernel
theorem dX10_takes_140 : decode cX10_takes 140 = .ok (.aload_n 0, 1) := by decide +kernel
theorem dX10_takes_141 : decode cX10_takes 141 = .ok (.getfield 30, 3) := by decide +kernel
theorem dX10_takes_144 : decode cX10_takes 144 = .ok (.iload 4, 2) := by decide +kernel
theorem dX10_takes_146 : decode cX10_takes 146 = .ok (.iaload, 1) := by decide +kernel
theorem dX10_takes_147 : decode cX10_takes 147 = .ok (.iastore, 1) := by decide +kernel
theorem dX10_takes_148 : decode cX10_takes 148 = .ok (.iconst 0, 1) := by decide +kernel
theorem dX10_takes_149 : decode cX10_takes 149 = .ok (.istore 5, 2) := by decide +kernel
theorem dX10_takes_151 : decode cX10_takes 151 = .ok (.iload 5, 2) := by decide +kernel
theorem dX10_takes_153 : decode cX10_takes 153 = .ok (.iconst 3, 1) := by decide +kernel
theorem dX10_takes_154 : decode cX10_takes 154 = .ok (.if_icmp .ge 42, 3) := by decide +kernel
theorem dX10_takes_157 : decode cX10_takes 157 = .ok (.aload_n 0, 1) := by decide +kernel
theorem dX10_takes_158 : decode cX10_takes 158 = .ok (.getfield 27, 3) := by decide +kernel
theorem dX10_takes_161 : decode cX10_takes 161 = .ok (.iconst 3, 1) := by decide +kernel
theorem dX10_takes_162 : decode cX10_takes 162 = .ok (.aload_n 0, 1) := by decide +kernel
theorem dX10_takes_163 : decode cX10_takes 163 = .ok (.iload_n 1, 1) := by decide +kernel
theorem dX10_takes_164 : decode cX10_takes 164 = .ok (.aload_n 0, 1) := by decide +kernel
theorem dX10_takes_165 : decode cX10_takes 165 = .ok (.getfield 20, 3) := by decide +kernel
theorem dX10_takes_168 : decode cX10_takes 168 = .ok (.iload_n 1, 1) := by decide +kernel
theorem dX10_takes_169 : decode cX10_takes 169 = .ok (.iaload, 1) := by decide +kernel
theorem dX10_takes_170 : decode cX10_takes 170 = .ok (.invokevirtual 68, 3) := by decide +kernel
theorem dX10_takes_173 : decode cX10_takes 173 = .ok (.imul, 1) := by decide +kernel
theorem dX10_takes_174 : decode cX10_takes 174 = .ok (.iload 5, 2) := by decide +kernel
theorem dX10_takes_176 : decode cX10_takes 176 = .ok (.iadd, 1) := by decide +kernel
theorem dX10_takes_177 : decode cX10_takes 177 = .ok (.aload_n 0, 1) := by decide +kernel
theorem dX10_takes_178 : decode cX10_takes 178 = .ok (.getfield 33, 3) := by decide +kernel
theorem dX10_takes_181 : decode cX10_takes 181 = .ok (.iconst 3, 1) := by decide +kernel
theorem dX10_takes_182 : decode cX10_takes 182 = .ok (.iload 4, 2) := by decide +kernel
theorem dX10_takes_184 : decode cX10_takes 184 = .ok (.imul, 1) := by decide +kernel
theorem dX10_takes_185 : decode cX10_takes 185 = .ok (.iload 5, 2) := by decide +kernel
theorem dX10_takes_187 : decode cX10_takes 187 = .ok (.iadd, 1) := by decide +kernel
theorem dX10_takes_188 : decode cX10_takes 188 = .ok (.iaload, 1) := by decide +kernel
theorem dX10_takes_189 : decode cX10_takes 189 = .ok (.iastore, 1) := by decide +kernel
theorem dX10_takes_190 : decode cX10_takes 190 = .ok (.iinc 5 1, 3) := by decide +kernel
theorem dX10_takes_193 : decode cX10_takes 193 = .ok (.goto (-42), 3) := by decide +kernel
theorem dX10_takes_196 : decode cX10_takes 196 = .ok (.aload_n 0, 1) := by decide +kernel
theorem dX10_takes_197 : decode cX10_takes 197 = .ok (.getfield 20, 3) := by decide +kernel
theorem dX10_takes_200 : decode cX10_takes 200 = .ok (.iload_n 1, 1) := by decide +kernel
theorem dX10_takes_201 : decode cX10_takes 201 = .ok (.aload_n 0, 1) := by decide +kernel
theorem dX10_takes_202 : decode cX10_takes 202 = .ok (.getfield 20, 3) := by decide +kernel
theorem dX10_takes_205 : decode cX10_takes 205 = .ok (.iload_n 1, 1) := by decide +kernel
theorem dX10_takes_206 : decode cX10_takes 206 = .ok (.iaload, 1) := by decide +kernel
theorem dX10_takes_207 : decode cX10_takes 207 = .ok (.iconst 1, 1) := by decide +kernel
theorem dX10_takes_208 : decode cX10_takes 208 = .ok (.iadd, 1) := by decide +kernel
theorem dX10_takes_209 : decode cX10_takes 209 = .ok (.iastore, 1) := by decide +kernel
theorem dX10_takes_210 : decode cX10_takes 210 = .ok (.iinc 4 1, 3) := by decide +kernel
theorem dX10_takes_213 : decode cX10_takes 213 = .ok (.goto (-110), 3) := by decide +kernel
theorem dX10_takes_216 : decode cX10_takes 216 = .ok (.iconst 1, 1) := by decide +kernel
theorem dX10_takes_217 : decode cX10_takes 217 = .ok (.ireturn, 1) := by decide +kernel
theorem dX10_isSlot_0 : decode cX10_isSlot 0 = .ok (.aload_n 0, 1) := by decide +kernel
theorem dX10_isSlot_1 : decode cX10_isSlot 1 = .ok (.iload_n 1, 1) := by decide +kernel
theorem dX10_isSlot_2 : decode cX10_isSlot 2 = .ok (.i2l, 1) := by decide +kernel
theorem dX10_isSlot_3 : decode cX10_isSlot 3 = .ok (.lconst 0, 1) := by decide +kernel
theorem dX10_isSlot_4 : decode cX10_isSlot 4 = .ok (.ldc2_w 104, 3) := by decide +kernel
theorem dX10_isSlot_7 : decode cX10_isSlot 7 = .ok (.invokevirtual 106, 3) := by decide +kernel
theorem dX10_isSlot_10 : decode cX10_isSlot 10 = .ok (.ireturn, 1) := by decide +kernel
theorem dX10_isPrime_0 : decode cX10_isPrime 0 = .ok (.iconst 2, 1) := by decide +kernel
theorem dX10_isPrime_1 : decode cX10_isPrime 1 = .ok (.istore_n 2, 1) := by decide +kernel
theorem dX10_isPrime_2 : decode cX10_isPrime 2 = .ok (.iload_n 2, 1) := by decide +kernel
theorem dX10_isPrime_3 : decode cX10_isPrime 3 = .ok (.iload_n 2, 1) := by decide +kernel
theorem dX10_isPrime_4 : decode cX10_isPrime 4 = .ok (.imul, 1) := by decide +kernel
theorem dX10_isPrime_5 : decode cX10_isPrime 5 = .ok (.iload_n 1, 1) := by decide +kernel
theorem dX10_isPrime_6 : decode cX10_isPrime 6 = .ok (.if_icmp .gt 17, 3) := by decide +kernel
theorem dX10_isPrime_9 : decode cX10_isPrime 9 = .ok (.iload_n 1, 1) := by decide +kernel
theorem dX10_isPrime_10 : decode cX10_isPrime 10 = .ok (.iload_n 2, 1) := by decide +kernel
theorem dX10_isPrime_11 : decode cX10_isPrime 11 = .ok (.irem, 1) := by decide +kernel
theorem dX10_isPrime_12 : decode cX10_isPrime 12 = .ok (.ifCond .ne 5, 3) := by decide +kernel
theorem dX10_isPrime_15 : decode cX10_isPrime 15 = .ok (.iconst 0, 1) := by decide +kernel
theorem dX10_isPrime_16 : decode cX10_isPrime 16 = .ok (.ireturn, 1) := by decide +kernel
theorem dX10_isPrime_17 : decode cX10_isPrime 17 = .ok (.iinc 2 1, 3) := by decide +kernel
theorem dX10_isPrime_20 : decode cX10_isPrime 20 = .ok (.goto (-18), 3) := by decide +kernel
theorem dX10_isPrime_23 : decode cX10_isPrime 23 = .ok (.iconst 1, 1) := by decide +kernel
theorem dX10_isPrime_24 : decode cX10_isPrime 24 = .ok (.ireturn, 1) := by decide +kernel
theorem dX10_ring_0 : decode cX10_ring 0 = .ok (.aload_n 0, 1) := by decide +kernel
theorem dX10_ring_1 : decode cX10_ring 1 = .ok (.iconst 0, 1) := by decide +kernel
theorem dX10_ring_2 : decode cX10_ring 2 = .ok (.putfield 65, 3) := by decide +kernel
theorem dX10_ring_5 : decode cX10_ring 5 = .ok (.aload_n 0, 1) := by decide +kernel
theorem dX10_ring_6 : decode cX10_ring 6 = .ok (.iload_n 1, 1) := by decide +kernel
theorem dX10_ring_7 : decode cX10_ring 7 = .ok (.i2l, 1) := by decide +kernel
theorem dX10_ring_8 : decode cX10_ring 8 = .ok (.lconst 1, 1) := by decide +kernel
theorem dX10_ring_9 : decode cX10_ring 9 = .ok (.ldc2_w 110, 3) := by decide +kernel
theorem dX10_ring_12 : decode cX10_ring 12 = .ok (.invokevirtual 106, 3) := by decide +kernel
theorem dX10_ring_15 : decode cX10_ring 15 = .ok (.ifCond .eq 26, 3) := by decide +kernel
theorem dX10_ring_18 : decode cX10_ring 18 = .ok (.aload_n 0, 1) := by decide +kernel
theorem dX10_ring_19 : decode cX10_ring 19 = .ok (.iload_n 2, 1) := by decide +kernel
theorem dX10_ring_20 : decode cX10_ring 20 = .ok (.i2l, 1) := by decide +kernel
theorem dX10_ring_21 : decode cX10_ring 21 = .ok (.ldc2_w 112, 3) := by decide +kernel
theorem dX10_ring_24 : decode cX10_ring 24 = .ok (.ldc2_w 114, 3) := by decide +kernel
theorem dX10_ring_27 : decode cX10_ring 27 = .ok (.invokevirtual 106, 3) := by decide +kernel
theorem dX10_ring_30 : decode cX10_ring 30 = .ok (.ifCond .eq 11, 3) := by decide +kernel
theorem dX10_ring_33 : decode cX10_ring 33 = .ok (.aload_n 0, 1) := by decide +kernel
theorem dX10_ring_34 : decode cX10_ring 34 = .ok (.iload_n 2, 1) := by decide +kernel
theorem dX10_ring_35 : decode cX10_ring 35 = .ok (.invokevirtual 116, 3) := by decide +kernel
theorem dX10_ring_38 : decode cX10_ring 38 = .ok (.ifCond .ne 5, 3) := by decide +kernel
theorem dX10_ring_41 : decode cX10_ring 41 = .ok (.iconst 0, 1) := by decide +kernel
theorem dX10_ring_42 : decode cX10_ring 42 = .ok (.ireturn, 1) := by decide +kernel
theorem dX10_ring_43 : decode cX10_ring 43 = .ok (.aload_n 0, 1) := by decide +kernel
theorem dX10_ring_44 : decode cX10_ring 44 = .ok (.iload_n 1, 1) := by decide +kernel
theorem dX10_ring_45 : decode cX10_ring 45 = .ok (.putfield 7, 3) := by decide +kernel
theorem dX10_ring_48 : decode cX10_ring 48 = .ok (.aload_n 0, 1) := by decide +kernel
theorem dX10_ring_49 : decode cX10_ring 49 = .ok (.iload_n 2, 1) := by decide +kernel
theorem dX10_ring_50 : decode cX10_ring 50 = .ok (.putfield 13, 3) := by decide +kernel
theorem dX10_ring_53 : decode cX10_ring 53 = .ok (.iconst 0, 1) := by decide +kernel
theorem dX10_ring_54 : decode cX10_ring 54 = .ok (.istore_n 3, 1) := by decide +kernel
theorem dX10_ring_55 : decode cX10_ring 55 = .ok (.iload_n 3, 1) := by decide +kernel
theorem dX10_ring_56 : decode cX10_ring 56 = .ok (.iconst 3, 1) := by decide +kernel
theorem dX10_ring_57 : decode cX10_ring 57 = .ok (.if_icmp .ge 16, 3) := by decide +kernel
theorem dX10_ring_60 : decode cX10_ring 60 = .ok (.aload_n 0, 1) := by decide +kernel
theorem dX10_ring_61 : decode cX10_ring 61 = .ok (.getfield 16, 3) := by decide +kernel
theorem dX10_ring_64 : decode cX10_ring 64 = .ok (.iload_n 3, 1) := by decide +kernel
theorem dX10_ring_65 : decode cX10_ring 65 = .ok (.iconst 1, 1) := by decide +kernel
theorem dX10_ring_66 : decode cX10_ring 66 = .ok (.iastore, 1) := by decide +kernel
theorem dX10_ring_67 : decode cX10_ring 67 = .ok (.iinc 3 1, 3) := by decide +kernel
theorem dX10_ring_70 : decode cX10_ring 70 = .ok (.goto (-15), 3) := by decide +kernel
theorem dX10_ring_73 : decode cX10_ring 73 = .ok (.iconst 0, 1) := by decide +kernel
theorem dX10_ring_74 : decode cX10_ring 74 = .ok (.istore_n 3, 1) := by decide +kernel
theorem dX10_ring_75 : decode cX10_ring 75 = .ok (.iload_n 3, 1) := by decide +kernel
theorem dX10_ring_76 : decode cX10_ring 76 = .ok (.bipush 8, 2) := by decide +kernel
theorem dX10_ring_78 : decode cX10_ring 78 = .ok (.if_icmp .ge 16, 3) := by decide +kernel
theorem dX10_ring_81 : decode cX10_ring 81 = .ok (.aload_n 0, 1) := by decide +kernel
theorem dX10_ring_82 : decode cX10_ring 82 = .ok (.getfield 20, 3) := by decide +kernel
theorem dX10_ring_85 : decode cX10_ring 85 = .ok (.iload_n 3, 1) := by decide +kernel
theorem dX10_ring_86 : decode cX10_ring 86 = .ok (.iconst 0, 1) := by decide +kernel
theorem dX10_ring_87 : decode cX10_ring 87 = .ok (.iastore, 1) := by decide +kernel
theorem dX10_ring_88 : decode cX10_ring 88 = .ok (.iinc 3 1, 3) := by decide +kernel
theorem dX10_ring_91 : decode cX10_ring 91 = .ok (.goto (-16), 3) := by decide +kernel
theorem dX10_ring_94 : decode cX10_ring 94 = .ok (.aload_n 0, 1) := by decide +kernel
theorem dX10_ring_95 : decode cX10_ring 95 = .ok (.iconst 0, 1) := by decide +kernel
theorem dX10_ring_96 : decode cX10_ring 96 = .ok (.putfield 120, 3) := by decide +kernel
theorem dX10_ring_99 : decode cX10_ring 99 = .ok (.iconst 1, 1) := by decide +kernel
theorem dX10_ring_100 : decode cX10_ring 100 = .ok (.ireturn, 1) := by decide +kernel
theorem dX10_sorts_0 : decode cX10_sorts 0 = .ok (.aload_n 0, 1) := by decide +kernel
theorem dX10_sorts_1 : decode cX10_sorts 1 = .ok (.iconst 0, 1) := by decide +kernel
theorem dX10_sorts_2 : decode cX10_sorts 2 = .ok (.putfield 93, 3) := by decide +kernel
theorem dX10_sorts_5 : decode cX10_sorts 5 = .ok (.aload_n 0, 1) := by decide +kernel
theorem dX10_sorts_6 : decode cX10_sorts 6 = .ok (.iload_n 1, 1) := by decide +kernel
theorem dX10_sorts_7 : decode cX10_sorts 7 = .ok (.iconst 1, 1) := by decide +kernel
theorem dX10_sorts_8 : decode cX10_sorts 8 = .ok (.iconst 0, 1) := by decide +kernel
theorem dX10_sorts_9 : decode cX10_sorts 9 = .ok (.iconst 0, 1) := by decide +kernel
theorem dX10_sorts_10 : decode cX10_sorts 10 = .ok (.iconst 0, 1) := by decide +kernel
theorem dX10_sorts_11 : decode cX10_sorts 11 = .ok (.invokevirtual 124, 3) := by decide +kernel
theorem dX10_sorts_14 : decode cX10_sorts 14 = .ok (.aload_n 0, 1) := by decide +kernel
theorem dX10_sorts_15 : decode cX10_sorts 15 = .ok (.iload_n 1, 1) := by decide +kernel
theorem dX10_sorts_16 : decode cX10_sorts 16 = .ok (.invokevirtual 128, 3) := by decide +kernel
theorem dX10_sorts_19 : decode cX10_sorts 19 = .ok (.istore_n 2, 1) := by decide +kernel
theorem dX10_sorts_20 : decode cX10_sorts 20 = .ok (.return_, 1) := by decide +kernel
theorem dX10_weights_0 : decode cX10_weights 0 = .ok (.aload_n 0, 1) := by decide +kernel
theorem dX10_weights_1 : decode cX10_weights 1 = .ok (.iconst 0, 1) := by decide +kernel
theorem dX10_weights_2 : decode cX10_weights 2 = .ok (.putfield 65, 3) := by decide +kernel
theorem dX10_weights_5 : decode cX10_weights 5 = .ok (.aload_n 0, 1) := by decide +kernel
theorem dX10_weights_6 : decode cX10_weights 6 = .ok (.iload_n 1, 1) := by decide +kernel
theorem dX10_weights_7 : decode cX10_weights 7 = .ok (.i2l, 1) := by decide +kernel
theorem dX10_weights_8 : decode cX10_weights 8 = .ok (.lconst 1, 1) := by decide +kernel
theorem dX10_weights_9 : decode cX10_weights 9 = .ok (.ldc2_w 131, 3) := by decide +kernel
theorem dX10_weights_12 : decode cX10_weights 12 = .ok (.invokevirtual 106, 3) := by decide +kernel
theorem dX10_weights_15 : decode cX10_weights 15 = .ok (.ifCond .eq 29, 3) := by decide +kernel
theorem dX10_weights_18 : decode cX10_weights 18 = .ok (.aload_n 0, 1) := by decide +kernel
theorem dX10_weights_19 : decode cX10_weights 19 = .ok (.iload_n 2, 1) := by decide +kernel
theorem dX10_weights_20 : decode cX10_weights 20 = .ok (.i2l, 1) := by decide +kernel
theorem dX10_weights_21 : decode cX10_weights 21 = .ok (.lconst 1, 1) := by decide +kernel
theorem dX10_weights_22 : decode cX10_weights 22 = .ok (.ldc2_w 131, 3) := by decide +kernel
theorem dX10_weights_25 : decode cX10_weights 25 = .ok (.invokevirtual 106, 3) := by decide +kernel
theorem dX10_weights_28 : decode cX10_weights 28 = .ok (.ifCond .eq 16, 3) := by decide +kernel
theorem dX10_weights_31 : decode cX10_weights 31 = .ok (.aload_n 0, 1) := by decide +kernel
theorem dX10_weights_32 : decode cX10_weights 32 = .ok (.iload_n 3, 1) := by decide +kernel
theorem dX10_weights_33 : decode cX10_weights 33 = .ok (.i2l, 1) := by decide +kernel
theorem dX10_weights_34 : decode cX10_weights 34 = .ok (.lconst 1, 1) := by decide +kernel
theorem dX10_weights_35 : decode cX10_weights 35 = .ok (.ldc2_w 131, 3) := by decide +kernel
theorem dX10_weights_38 : decode cX10_weights 38 = .ok (.invokevirtual 106, 3) := by decide +kernel
theorem dX10_weights_41 : decode cX10_weights 41 = .ok (.ifCond .ne 5, 3) := by decide +kernel
theorem dX10_weights_44 : decode cX10_weights 44 = .ok (.iconst 0, 1) := by decide +kernel
theorem dX10_weights_45 : decode cX10_weights 45 = .ok (.ireturn, 1) := by decide +kernel
theorem dX10_weights_46 : decode cX10_weights 46 = .ok (.aload_n 0, 1) := by decide +kernel
theorem dX10_weights_47 : decode cX10_weights 47 = .ok (.getfield 16, 3) := by decide +kernel
theorem dX10_weights_50 : decode cX10_weights 50 = .ok (.iconst 0, 1) := by decide +kernel
theorem dX10_weights_51 : decode cX10_weights 51 = .ok (.iload_n 1, 1) := by decide +kernel
theorem dX10_weights_52 : decode cX10_weights 52 = .ok (.iastore, 1) := by decide +kernel
theorem dX10_weights_53 : decode cX10_weights 53 = .ok (.aload_n 0, 1) := by decide +kernel
theorem dX10_weights_54 : decode cX10_weights 54 = .ok (.getfield 16, 3) := by decide +kernel
theorem dX10_weights_57 : decode cX10_weights 57 = .ok (.iconst 1, 1) := by decide +kernel
theorem dX10_weights_58 : decode cX10_weights 58 = .ok (.iload_n 2, 1) := by decide +kernel
theorem dX10_weights_59 : decode cX10_weights 59 = .ok (.iastore, 1) := by decide +kernel
theorem dX10_weights_60 : decode cX10_weights 60 = .ok (.aload_n 0, 1) := by decide +kernel
theorem dX10_weights_61 : decode cX10_weights 61 = .ok (.getfield 16, 3) := by decide +kernel
theorem dX10_weights_64 : decode cX10_weights 64 = .ok (.iconst 2, 1) := by decide +kernel
theorem dX10_weights_65 : decode cX10_weights 65 = .ok (.iload_n 3, 1) := by decide +kernel
theorem dX10_weights_66 : decode cX10_weights 66 = .ok (.iastore, 1) := by decide +kernel
theorem dX10_weights_67 : decode cX10_weights 67 = .ok (.iconst 0, 1) := by decide +kernel
theorem dX10_weights_68 : decode cX10_weights 68 = .ok (.istore 4, 2) := by decide +kernel
theorem dX10_weights_70 : decode cX10_weights 70 = .ok (.iload 4, 2) := by decide +kernel
theorem dX10_weights_72 : decode cX10_weights 72 = .ok (.bipush 8, 2) := by decide +kernel
theorem dX10_weights_74 : decode cX10_weights 74 = .ok (.if_icmp .ge 15, 3) := by decide +kernel
theorem dX10_weights_77 : decode cX10_weights 77 = .ok (.aload_n 0, 1) := by decide +kernel
theorem dX10_weights_78 : decode cX10_weights 78 = .ok (.iload 4, 2) := by decide +kernel
theorem dX10_weights_80 : decode cX10_weights 80 = .ok (.invokevirtual 133, 3) := by decide +kernel
theorem dX10_weights_83 : decode cX10_weights 83 = .ok (.iinc 4 1, 3) := by decide +kernel
theorem dX10_weights_86 : decode cX10_weights 86 = .ok (.goto (-16), 3) := by decide +kernel
theorem dX10_weights_89 : decode cX10_weights 89 = .ok (.aload_n 0, 1) := by decide +kernel
theorem dX10_weights_90 : decode cX10_weights 90 = .ok (.iconst 0, 1) := by decide +kernel
theorem dX10_weights_91 : decode cX10_weights 91 = .ok (.putfield 120, 3) := by decide +kernel
theorem dX10_weights_94 : decode cX10_weights 94 = .ok (.iconst 1, 1) := by decide +kernel
theorem dX10_weights_95 : decode cX10_weights 95 = .ok (.ireturn, 1) := by decide +kernel
theorem dX10_see_0 : decode cX10_see 0 = .ok (.iload_n 1, 1) := by decide +kernel
theorem dX10_see_1 : decode cX10_see 1 = .ok (.aload_n 0, 1) := by decide +kernel
theorem dX10_see_2 : decode cX10_see 2 = .ok (.getfield 137, 3) := by decide +kernel
theorem dX10_see_5 : decode cX10_see 5 = .ok (.if_icmp .ge 16, 3) := by decide +kernel
theorem dX10_see_8 : decode cX10_see 8 = .ok (.aload_n 0, 1) := by decide +kernel
theorem dX10_see_9 : decode cX10_see 9 = .ok (.getfield 36, 3) := by decide +kernel
theorem dX10_see_12 : decode cX10_see 12 = .ok (.iload_n 1, 1) := by decide +kernel
theorem dX10_see_13 : decode cX10_see 13 = .ok (.baload, 1) := by decide +kernel
theorem dX10_see_14 : decode cX10_see 14 = .ok (.sipush 255, 3) := by decide +kernel
theorem dX10_see_17 : decode cX10_see 17 = .ok (.iand, 1) := by decide +kernel
theorem dX10_see_18 : decode cX10_see 18 = .ok (.goto 4, 3) := by decide +kernel
theorem dX10_see_21 : decode cX10_see 21 = .ok (.iconst (-1), 1) := by decide +kernel
theorem dX10_see_22 : decode cX10_see 22 = .ok (.ireturn, 1) := by decide +kernel
theorem dX10_isDigit_0 : decode cX10_isDigit 0 = .ok (.aload_n 0, 1) := by decide +kernel
theorem dX10_isDigit_1 : decode cX10_isDigit 1 = .ok (.iload_n 1, 1) := by decide +kernel
theorem dX10_isDigit_2 : decode cX10_isDigit 2 = .ok (.i2l, 1) := by decide +kernel
theorem dX10_isDigit_3 : decode cX10_isDigit 3 = .ok (.ldc2_w 140, 3) := by decide +kernel
theorem dX10_isDigit_6 : decode cX10_isDigit 6 = .ok (.ldc2_w 142, 3) := by decide +kernel
theorem dX10_isDigit_9 : decode cX10_isDigit 9 = .ok (.invokevirtual 106, 3) := by decide +kernel
theorem dX10_isDigit_12 : decode cX10_isDigit 12 = .ok (.ireturn, 1) := by decide +kernel
theorem dX10_skips_0 : decode cX10_skips 0 = .ok (.aload_n 0, 1) := by decide +kernel
theorem dX10_skips_1 : decode cX10_skips 1 = .ok (.aload_n 0, 1) := by decide +kernel
theorem dX10_skips_2 : decode cX10_skips 2 = .ok (.getfield 144, 3) := by decide +kernel
theorem dX10_skips_5 : decode cX10_skips 5 = .ok (.invokevirtual 147, 3) := by decide +kernel
theorem dX10_skips_8 : decode cX10_skips 8 = .ok (.bipush 32, 2) := by decide +kernel
theorem dX10_skips_10 : decode cX10_skips 10 = .ok (.if_icmp .ne 16, 3) := by decide +kernel
theorem dX10_skips_13 : decode cX10_skips 13 = .ok (.aload_n 0, 1) := by decide +kernel
theorem dX10_skips_14 : decode cX10_skips 14 = .ok (.aload_n 0, 1) := by decide +kernel
theorem dX10_skips_15 : decode cX10_skips 15 = .ok (.getfield 144, 3) := by decide +kernel
theorem dX10_skips_18 : decode cX10_skips 18 = .ok (.iconst 1, 1) := by decide +kernel
theorem dX10_skips_19 : decode cX10_skips 19 = .ok (.iadd, 1) := by decide +kernel
theorem dX10_skips_20 : decode cX10_skips 20 = .ok (.putfield 144, 3) := by decide +kernel
theorem dX10_skips_23 : decode cX10_skips 23 = .ok (.goto (-23), 3) := by decide +kernel
theorem dX10_skips_26 : decode cX10_skips 26 = .ok (.return_, 1) := by decide +kernel
theorem dX10_faultyAt_0 : decode cX10_faultyAt 0 = .ok (.aload_n 0, 1) := by decide +kernel
theorem dX10_faultyAt_1 : decode cX10_faultyAt 1 = .ok (.getfield 150, 3) := by decide +kernel
theorem dX10_faultyAt_4 : decode cX10_faultyAt 4 = .ok (.ifCond .eq 4, 3) := by decide +kernel
theorem dX10_faultyAt_7 : decode cX10_faultyAt 7 = .ok (.return_, 1) := by decide +kernel
theorem dX10_faultyAt_8 : decode cX10_faultyAt 8 = .ok (.aload_n 0, 1) := by decide +kernel
theorem dX10_faultyAt_9 : decode cX10_faultyAt 9 = .ok (.iconst 1, 1) := by decide +kernel
theorem dX10_faultyAt_10 : decode cX10_faultyAt 10 = .ok (.putfield 150, 3) := by decide +kernel
theorem dX10_faultyAt_13 : decode cX10_faultyAt 13 = .ok (.aload_n 0, 1) := by decide +kernel
theorem dX10_faultyAt_14 : decode cX10_faultyAt 14 = .ok (.iload_n 1, 1) := by decide +kernel
theorem dX10_faultyAt_15 : decode cX10_faultyAt 15 = .ok (.putfield 153, 3) := by decide +kernel
theorem dX10_faultyAt_18 : decode cX10_faultyAt 18 = .ok (.aload_n 0, 1) := by decide +kernel
theorem dX10_faultyAt_19 : decode cX10_faultyAt 19 = .ok (.iload_n 2, 1) := by decide +kernel
theorem dX10_faultyAt_20 : decode cX10_faultyAt 20 = .ok (.putfield 40, 3) := by decide +kernel
theorem dX10_faultyAt_23 : decode cX10_faultyAt 23 = .ok (.return_, 1) := by decide +kernel
theorem dX10_variableHere_0 : decode cX10_variableHere 0 = .ok (.aload_n 0, 1) := by decide +kernel
theorem dX10_variableHere_1 : decode cX10_variableHere 1 = .ok (.aload_n 0, 1) := by decide +kernel
theorem dX10_variableHere_2 : decode cX10_variableHere 2 = .ok (.getfield 144, 3) := by decide +kernel
theorem dX10_variableHere_5 : decode cX10_variableHere 5 = .ok (.invokevirtual 147, 3) := by decide +kernel
theorem dX10_variableHere_8 : decode cX10_variableHere 8 = .ok (.bipush 120, 2) := by decide +kernel
theorem dX10_variableHere_10 : decode cX10_variableHere 10 = .ok (.if_icmp .ne 7, 3) := by decide +kernel
theorem dX10_variableHere_13 : decode cX10_variableHere 13 = .ok (.iconst 0, 1) := by decide +kernel
theorem dX10_variableHere_14 : decode cX10_variableHere 14 = .ok (.goto 38, 3) := by decide +kernel
theorem dX10_variableHere_17 : decode cX10_variableHere 17 = .ok (.aload_n 0, 1) := by decide +kernel
theorem dX10_variableHere_18 : decode cX10_variableHere 18 = .ok (.aload_n 0, 1) := by decide +kernel
theorem dX10_variableHere_19 : decode cX10_variableHere 19 = .ok (.getfield 144, 3) := by decide +kernel
theorem dX10_variableHere_22 : decode cX10_variableHere 22 = .ok (.invokevirtual 147, 3) := by decide +kernel
theorem dX10_variableHere_25 : decode cX10_variableHere 25 = .ok (.bipush 121, 2) := by decide +kernel
theorem dX10_variableHere_27 : decode cX10_variableHere 27 = .ok (.if_icmp .ne 7, 3) := by decide +kernel
theorem dX10_variableHere_30 : decode cX10_variableHere 30 = .ok (.iconst 1, 1) := by decide +kernel
theorem dX10_variableHere_31 : decode cX10_variableHere 31 = .ok (.goto 21, 3) := by decide +kernel
theorem dX10_variableHere_34 : decode cX10_variableHere 34 = .ok (.aload_n 0, 1) := by decide +kernel
theorem dX10_variableHere_35 : decode cX10_variableHere 35 = .ok (.aload_n 0, 1) := by decide +kernel
theorem dX10_variableHere_36 : decode cX10_variableHere 36 = .ok (.getfield 144, 3) := by decide +kernel
theorem dX10_variableHere_39 : decode cX10_variableHere 39 = .ok (.invokevirtual 147, 3) := by decide +kernel
theorem dX10_variableHere_42 : decode cX10_variableHere 42 = .ok (.bipush 122, 2) := by decide +kernel
theorem dX10_variableHere_44 : decode cX10_variableHere 44 = .ok (.if_icmp .ne 7, 3) := by decide +kernel
theorem dX10_variableHere_47 : decode cX10_variableHere 47 = .ok (.iconst 2, 1) := by decide +kernel
theorem dX10_variableHere_48 : decode cX10_variableHere 48 = .ok (.goto 4, 3) := by decide +kernel
theorem dX10_variableHere_51 : decode cX10_variableHere 51 = .ok (.iconst (-1), 1) := by decide +kernel
theorem dX10_variableHere_52 : decode cX10_variableHere 52 = .ok (.istore_n 1, 1) := by decide +kernel
theorem dX10_variableHere_53 : decode cX10_variableHere 53 = .ok (.iload_n 1, 1) := by decide +kernel
theorem dX10_variableHere_54 : decode cX10_variableHere 54 = .ok (.aload_n 0, 1) := by decide +kernel
theorem dX10_variableHere_55 : decode cX10_variableHere 55 = .ok (.getfield 7, 3) := by decide +kernel
theorem dX10_variableHere_58 : decode cX10_variableHere 58 = .ok (.if_icmp .ge 7, 3) := by decide +kernel
theorem dX10_variableHere_61 : decode cX10_variableHere 61 = .ok (.iload_n 1, 1) := by decide +kernel
theorem dX10_variableHere_62 : decode cX10_variableHere 62 = .ok (.goto 4, 3) := by decide +kernel
theorem dX10_variableHere_65 : decode cX10_variableHere 65 = .ok (.iconst (-1), 1) := by decide +kernel
theorem dX10_variableHere_66 : decode cX10_variableHere 66 = .ok (.ireturn, 1) := by decide +kernel
theorem dX10_isFactor_0 : decode cX10_isFactor 0 = .ok (.aload_n 0, 1) := by decide +kernel
theorem dX10_isFactor_1 : decode cX10_isFactor 1 = .ok (.getfield 150, 3) := by decide +kernel
theorem dX10_isFactor_4 : decode cX10_isFactor 4 = .ok (.ifCond .ne 30, 3) := by decide +kernel
theorem dX10_isFactor_7 : decode cX10_isFactor 7 = .ok (.aload_n 0, 1) := by decide +kernel
theorem dX10_isFactor_8 : decode cX10_isFactor 8 = .ok (.aload_n 0, 1) := by decide +kernel
theorem dX10_isFactor_9 : decode cX10_isFactor 9 = .ok (.aload_n 0, 1) := by decide +kernel
theorem dX10_isFactor_10 : decode cX10_isFactor 10 = .ok (.getfield 144, 3) := by decide +kernel
theorem dX10_isFactor_13 : decode cX10_isFactor 13 = .ok (.invokevirtual 147, 3) := by decide +kernel
theorem dX10_isFactor_16 : decode cX10_isFactor 16 = .ok (.invokevirtual 156, 3) := by decide +kernel
theorem dX10_isFactor_19 : decode cX10_isFactor 19 = .ok (.ifCond .ne 11, 3) := by decide +kernel
theorem dX10_isFactor_22 : decode cX10_isFactor 22 = .ok (.aload_n 0, 1) := by decide +kernel
theorem dX10_isFactor_23 : decode cX10_isFactor 23 = .ok (.invokevirtual 159, 3) := by decide +kernel
theorem dX10_isFactor_26 : decode cX10_isFactor 26 = .ok (.iconst (-1), 1) := by decide +kernel
theorem dX10_isFactor_27 : decode cX10_isFactor 27 = .ok (.if_icmp .eq 7, 3) := by decide +kernel
theorem dX10_isFactor_30 : decode cX10_isFactor 30 = .ok (.iconst 1, 1) := by decide +kernel
theorem dX10_isFactor_31 : decode cX10_isFactor 31 = .ok (.goto 4, 3) := by decide +kernel
theorem dX10_isFactor_34 : decode cX10_isFactor 34 = .ok (.iconst 0, 1) := by decide +kernel
theorem dX10_isFactor_35 : decode cX10_isFactor 35 = .ok (.ireturn, 1) := by decide +kernel
theorem dX10_reads_0 : decode cX10_reads 0 = .ok (.aload_n 0, 1) := by decide +kernel
theorem dX10_reads_1 : decode cX10_reads 1 = .ok (.getfield 144, 3) := by decide +kernel
theorem dX10_reads_4 : decode cX10_reads 4 = .ok (.istore_n 2, 1) := by decide +kernel
theorem dX10_reads_5 : decode cX10_reads 5 = .ok (.iconst 0, 1) := by decide +kernel
theorem dX10_reads_6 : decode cX10_reads 6 = .ok (.istore_n 3, 1) := by decide +kernel
theorem dX10_reads_7 : decode cX10_reads 7 = .ok (.aload_n 0, 1) := by decide +kernel
theorem dX10_reads_8 : decode cX10_reads 8 = .ok (.aload_n 0, 1) := by decide +kernel
theorem dX10_reads_9 : decode cX10_reads 9 = .ok (.aload_n 0, 1) := by decide +kernel
theorem dX10_reads_10 : decode cX10_reads 10 = .ok (.getfield 144, 3) := by decide +kernel
theorem dX10_reads_13 : decode cX10_reads 13 = .ok (.invokevirtual 147, 3) := by decide +kernel
theorem dX10_reads_16 : decode cX10_reads 16 = .ok (.invokevirtual 156, 3) := by decide +kernel
theorem dX10_reads_19 : decode cX10_reads 19 = .ok (.ifCond .eq 43, 3) := by decide +kernel
theorem dX10_reads_22 : decode cX10_reads 22 = .ok (.aload_n 0, 1) := by decide +kernel
theorem dX10_reads_23 : decode cX10_reads 23 = .ok (.getfield 144, 3) := by decide +kernel
theorem dX10_reads_26 : decode cX10_reads 26 = .ok (.iload_n 2, 1) := by decide +kernel
theorem dX10_reads_27 : decode cX10_reads 27 = .ok (.isub, 1) := by decide +kernel
theorem dX10_reads_28 : decode cX10_reads 28 = .ok (.iload_n 1, 1) := by decide +kernel
theorem dX10_reads_29 : decode cX10_reads 29 = .ok (.if_icmp .ge 20, 3) := by decide +kernel
theorem dX10_reads_32 : decode cX10_reads 32 = .ok (.bipush 10, 2) := by decide +kernel
theorem dX10_reads_34 : decode cX10_reads 34 = .ok (.iload_n 3, 1) := by decide +kernel
theorem dX10_reads_35 : decode cX10_reads 35 = .ok (.imul, 1) := by decide +kernel
theorem dX10_reads_36 : decode cX10_reads 36 = .ok (.aload_n 0, 1) := by decide +kernel
theorem dX10_reads_37 : decode cX10_reads 37 = .ok (.aload_n 0, 1) := by decide +kernel
theorem dX10_reads_38 : decode cX10_reads 38 = .ok (.getfield 144, 3) := by decide +kernel
theorem dX10_reads_41 : decode cX10_reads 41 = .ok (.invokevirtual 147, 3) := by decide +kernel
theorem dX10_reads_44 : decode cX10_reads 44 = .ok (.iadd, 1) := by decide +kernel
theorem dX10_reads_45 : decode cX10_reads 45 = .ok (.bipush 48, 2) := by decide +kernel
theorem dX10_reads_47 : decode cX10_reads 47 = .ok (.isub, 1) := by decide +kernel
theorem dX10_reads_48 : decode cX10_reads 48 = .ok (.istore_n 3, 1) := by decide +kernel
theorem dX10_reads_49 : decode cX10_reads 49 = .ok (.aload_n 0, 1) := by decide +kernel
theorem dX10_reads_50 : decode cX10_reads 50 = .ok (.aload_n 0, 1) := by decide +kernel
theorem dX10_reads_51 : decode cX10_reads 51 = .ok (.getfield 144, 3) := by decide +kernel
theorem dX10_reads_54 : decode cX10_reads 54 = .ok (.iconst 1, 1) := by decide +kernel
theorem dX10_reads_55 : decode cX10_reads 55 = .ok (.iadd, 1) := by decide +kernel
theorem dX10_reads_56 : decode cX10_reads 56 = .ok (.putfield 144, 3) := by decide +kernel
theorem dX10_reads_59 : decode cX10_reads 59 = .ok (.goto (-52), 3) := by decide +kernel
theorem dX10_reads_62 : decode cX10_reads 62 = .ok (.aload_n 0, 1) := by decide +kernel
theorem dX10_reads_63 : decode cX10_reads 63 = .ok (.getfield 144, 3) := by decide +kernel
theorem dX10_reads_66 : decode cX10_reads 66 = .ok (.iload_n 2, 1) := by decide +kernel
theorem dX10_reads_67 : decode cX10_reads 67 = .ok (.if_icmp .eq 13, 3) := by decide +kernel
theorem dX10_reads_70 : decode cX10_reads 70 = .ok (.aload_n 0, 1) := by decide +kernel
theorem dX10_reads_71 : decode cX10_reads 71 = .ok (.getfield 144, 3) := by decide +kernel
theorem dX10_reads_74 : decode cX10_reads 74 = .ok (.iload_n 2, 1) := by decide +kernel
theorem dX10_reads_75 : decode cX10_reads 75 = .ok (.isub, 1) := by decide +kernel
theorem dX10_reads_76 : decode cX10_reads 76 = .ok (.iload_n 1, 1) := by decide +kernel
theorem dX10_reads_77 : decode cX10_reads 77 = .ok (.if_icmp .le 9, 3) := by decide +kernel
theorem dX10_reads_80 : decode cX10_reads 80 = .ok (.aload_n 0, 1) := by decide +kernel
theorem dX10_reads_81 : decode cX10_reads 81 = .ok (.iconst 1, 1) := by decide +kernel
theorem dX10_reads_82 : decode cX10_reads 82 = .ok (.iload_n 2, 1) := by decide +kernel
theorem dX10_reads_83 : decode cX10_reads 83 = .ok (.invokevirtual 163, 3) := by decide +kernel
theorem dX10_reads_86 : decode cX10_reads 86 = .ok (.aload_n 0, 1) := by decide +kernel
theorem dX10_reads_87 : decode cX10_reads 87 = .ok (.invokevirtual 167, 3) := by decide +kernel
theorem dX10_reads_90 : decode cX10_reads 90 = .ok (.iload_n 3, 1) := by decide +kernel
theorem dX10_reads_91 : decode cX10_reads 91 = .ok (.ireturn, 1) := by decide +kernel
theorem dX10_readsFactor_0 : decode cX10_readsFactor 0 = .ok (.aload_n 0, 1) := by decide +kernel
theorem dX10_readsFactor_1 : decode cX10_readsFactor 1 = .ok (.aload_n 0, 1) := by decide +kernel
theorem dX10_readsFactor_2 : decode cX10_readsFactor 2 = .ok (.aload_n 0, 1) := by decide +kernel
theorem dX10_readsFactor_3 : decode cX10_readsFactor 3 = .ok (.getfield 144, 3) := by decide +kernel
theorem dX10_readsFactor_6 : decode cX10_readsFactor 6 = .ok (.invokevirtual 147, 3) := by decide +kernel
theorem dX10_readsFactor_9 : decode cX10_readsFactor 9 = .ok (.invokevirtual 156, 3) := by decide +kernel
theorem dX10_readsFactor_12 : decode cX10_readsFactor 12 = .ok (.ifCond .eq 30, 3) := by decide +kernel
theorem dX10_readsFactor_15 : decode cX10_readsFactor 15 = .ok (.aload_n 0, 1) := by decide +kernel
theorem dX10_readsFactor_16 : decode cX10_readsFactor 16 = .ok (.aload_n 0, 1) := by decide +kernel
theorem dX10_readsFactor_17 : decode cX10_readsFactor 17 = .ok (.getfield 170, 3) := by decide +kernel
theorem dX10_readsFactor_20 : decode cX10_readsFactor 20 = .ok (.aload_n 0, 1) := by decide +kernel
theorem dX10_readsFactor_21 : decode cX10_readsFactor 21 = .ok (.iconst 5, 1) := by decide +kernel
theorem dX10_readsFactor_22 : decode cX10_readsFactor 22 = .ok (.invokevirtual 174, 3) := by decide +kernel
theorem dX10_readsFactor_25 : decode cX10_readsFactor 25 = .ok (.aload_n 0, 1) := by decide +kernel
theorem dX10_readsFactor_26 : decode cX10_readsFactor 26 = .ok (.getfield 13, 3) := by decide +kernel
theorem dX10_readsFactor_29 : decode cX10_readsFactor 29 = .ok (.irem, 1) := by decide +kernel
theorem dX10_readsFactor_30 : decode cX10_readsFactor 30 = .ok (.i2l, 1) := by decide +kernel
theorem dX10_readsFactor_31 : decode cX10_readsFactor 31 = .ok (.lmul, 1) := by decide +kernel
theorem dX10_readsFactor_32 : decode cX10_readsFactor 32 = .ok (.aload_n 0, 1) := by decide +kernel
theorem dX10_readsFactor_33 : decode cX10_readsFactor 33 = .ok (.getfield 13, 3) := by decide +kernel
theorem dX10_readsFactor_36 : decode cX10_readsFactor 36 = .ok (.i2l, 1) := by decide +kernel
theorem dX10_readsFactor_37 : decode cX10_readsFactor 37 = .ok (.lrem, 1) := by decide +kernel
theorem dX10_readsFactor_38 : decode cX10_readsFactor 38 = .ok (.putfield 170, 3) := by decide +kernel
theorem dX10_readsFactor_41 : decode cX10_readsFactor 41 = .ok (.return_, 1) := by decide +kernel
theorem dX10_readsFactor_42 : decode cX10_readsFactor 42 = .ok (.aload_n 0, 1) := by decide +kernel
theorem dX10_readsFactor_43 : decode cX10_readsFactor 43 = .ok (.getfield 144, 3) := by decide +kernel
theorem dX10_readsFactor_46 : decode cX10_readsFactor 46 = .ok (.istore_n 1, 1) := by decide +kernel
theorem dX10_readsFactor_47 : decode cX10_readsFactor 47 = .ok (.aload_n 0, 1) := by decide +kernel
theorem dX10_readsFactor_48 : decode cX10_readsFactor 48 = .ok (.invokevirtual 159, 3) := by decide +kernel
theorem dX10_readsFactor_51 : decode cX10_readsFactor 51 = .ok (.istore_n 2, 1) := by decide +kernel
theorem dX10_readsFactor_52 : decode cX10_readsFactor 52 = .ok (.aload_n 0, 1) := by decide +kernel
theorem dX10_readsFactor_53 : decode cX10_readsFactor 53 = .ok (.aload_n 0, 1) := by decide +kernel
theorem dX10_readsFactor_54 : decode cX10_readsFactor 54 = .ok (.getfield 144, 3) := by decide +kernel
theorem dX10_readsFactor_57 : decode cX10_readsFactor 57 = .ok (.iconst 1, 1) := by decide +kernel
theorem dX10_readsFactor_58 : decode cX10_readsFactor 58 = .ok (.iadd, 1) := by decide +kernel
theorem dX10_readsFactor_59 : decode cX10_readsFactor 59 = .ok (.putfield 144, 3) := by decide +kernel
theorem dX10_readsFactor_62 : decode cX10_readsFactor 62 = .ok (.aload_n 0, 1) := by decide +kernel
theorem dX10_readsFactor_63 : decode cX10_readsFactor 63 = .ok (.invokevirtual 167, 3) := by decide +kernel
theorem dX10_readsFactor_66 : decode cX10_readsFactor 66 = .ok (.iconst 1, 1) := by decide +kernel
theorem dX10_readsFactor_67 : decode cX10_readsFactor 67 = .ok (.istore_n 3, 1) := by decide +kernel
theorem dX10_readsFactor_68 : decode cX10_readsFactor 68 = .ok (.aload_n 0, 1) := by decide +kernel
theorem dX10_readsFactor_69 : decode cX10_readsFactor 69 = .ok (.aload_n 0, 1) := by decide +kernel
theorem dX10_readsFactor_70 : decode cX10_readsFactor 70 = .ok (.getfield 144, 3) := by decide +kernel
theorem dX10_readsFactor_73 : decode cX10_readsFactor 73 = .ok (.invokevirtual 147, 3) := by decide +kernel
theorem dX10_readsFactor_76 : decode cX10_readsFactor 76 = .ok (.bipush 94, 2) := by decide +kernel
theorem dX10_readsFactor_78 : decode cX10_readsFactor 78 = .ok (.if_icmp .ne 23, 3) := by decide +kernel
theorem dX10_readsFactor_81 : decode cX10_readsFactor 81 = .ok (.aload_n 0, 1) := by decide +kernel
theorem dX10_readsFactor_82 : decode cX10_readsFactor 82 = .ok (.aload_n 0, 1) := by decide +kernel
theorem dX10_readsFactor_83 : decode cX10_readsFactor 83 = .ok (.getfield 144, 3) := by decide +kernel
theorem dX10_readsFactor_86 : decode cX10_readsFactor 86 = .ok (.iconst 1, 1) := by decide +kernel
theorem dX10_readsFactor_87 : decode cX10_readsFactor 87 = .ok (.iadd, 1) := by decide +kernel
theorem dX10_readsFactor_88 : decode cX10_readsFactor 88 = .ok (.putfield 144, 3) := by decide +kernel
theorem dX10_readsFactor_91 : decode cX10_readsFactor 91 = .ok (.aload_n 0, 1) := by decide +kernel
theorem dX10_readsFactor_92 : decode cX10_readsFactor 92 = .ok (.invokevirtual 167, 3) := by decide +kernel
theorem dX10_readsFactor_95 : decode cX10_readsFactor 95 = .ok (.aload_n 0, 1) := by decide +kernel
theorem dX10_readsFactor_96 : decode cX10_readsFactor 96 = .ok (.iconst 2, 1) := by decide +kernel
theorem dX10_readsFactor_97 : decode cX10_readsFactor 97 = .ok (.invokevirtual 174, 3) := by decide +kernel
theorem dX10_readsFactor_100 : decode cX10_readsFactor 100 = .ok (.istore_n 3, 1) := by decide +kernel
theorem dX10_readsFactor_101 : decode cX10_readsFactor 101 = .ok (.aload_n 0, 1) := by decide +kernel
theorem dX10_readsFactor_102 : decode cX10_readsFactor 102 = .ok (.getfield 43, 3) := by decide +kernel
theorem dX10_readsFactor_105 : decode cX10_readsFactor 105 = .ok (.iload_n 2, 1) := by decide +kernel
theorem dX10_readsFactor_106 : decode cX10_readsFactor 106 = .ok (.aload_n 0, 1) := by decide +kernel
theorem dX10_readsFactor_107 : decode cX10_readsFactor 107 = .ok (.getfield 43, 3) := by decide +kernel
theorem dX10_readsFactor_110 : decode cX10_readsFactor 110 = .ok (.iload_n 2, 1) := by decide +kernel
theorem dX10_readsFactor_111 : decode cX10_readsFactor 111 = .ok (.iaload, 1) := by decide +kernel
theorem dX10_readsFactor_112 : decode cX10_readsFactor 112 = .ok (.iload_n 3, 1) := by decide +kernel
theorem dX10_readsFactor_113 : decode cX10_readsFactor 113 = .ok (.iadd, 1) := by decide +kernel
theorem dX10_readsFactor_114 : decode cX10_readsFactor 114 = .ok (.iastore, 1) := by decide +kernel
theorem dX10_readsFactor_115 : decode cX10_readsFactor 115 = .ok (.aload_n 0, 1) := by decide +kernel
theorem dX10_readsFactor_116 : decode cX10_readsFactor 116 = .ok (.getfield 43, 3) := by decide +kernel
theorem dX10_readsFactor_119 : decode cX10_readsFactor 119 = .ok (.iload_n 2, 1) := by decide +kernel
theorem dX10_readsFactor_120 : decode cX10_readsFactor 120 = .ok (.iaload, 1) := by decide +kernel
theorem dX10_readsFactor_121 : decode cX10_readsFactor 121 = .ok (.bipush 30, 2) := by decide +kernel
theorem dX10_readsFactor_123 : decode cX10_readsFactor 123 = .ok (.if_icmp .le 9, 3) := by decide +kernel
theorem dX10_readsFactor_126 : decode cX10_readsFactor 126 = .ok (.aload_n 0, 1) := by decide +kernel
theorem dX10_readsFactor_127 : decode cX10_readsFactor 127 = .ok (.iconst 2, 1) := by decide +kernel
theorem dX10_readsFactor_128 : decode cX10_readsFactor 128 = .ok (.iload_n 1, 1) := by decide +kernel
theorem dX10_readsFactor_129 : decode cX10_readsFactor 129 = .ok (.invokevirtual 163, 3) := by decide +kernel
theorem dX10_readsFactor_132 : decode cX10_readsFactor 132 = .ok (.return_, 1) := by decide +kernel
theorem dX10_readsTerm_0 : decode cX10_readsTerm 0 = .ok (.aload_n 0, 1) := by decide +kernel
theorem dX10_readsTerm_1 : decode cX10_readsTerm 1 = .ok (.invokevirtual 177, 3) := by decide +kernel
theorem dX10_readsTerm_4 : decode cX10_readsTerm 4 = .ok (.ifCond .ne 12, 3) := by decide +kernel
theorem dX10_readsTerm_7 : decode cX10_readsTerm 7 = .ok (.aload_n 0, 1) := by decide +kernel
theorem dX10_readsTerm_8 : decode cX10_readsTerm 8 = .ok (.iconst 1, 1) := by decide +kernel
theorem dX10_readsTerm_9 : decode cX10_readsTerm 9 = .ok (.aload_n 0, 1) := by decide +kernel
theorem dX10_readsTerm_10 : decode cX10_readsTerm 10 = .ok (.getfield 144, 3) := by decide +kernel
theorem dX10_readsTerm_13 : decode cX10_readsTerm 13 = .ok (.invokevirtual 163, 3) := by decide +kernel
theorem dX10_readsTerm_16 : decode cX10_readsTerm 16 = .ok (.aload_n 0, 1) := by decide +kernel
theorem dX10_readsTerm_17 : decode cX10_readsTerm 17 = .ok (.lconst 1, 1) := by decide +kernel
theorem dX10_readsTerm_18 : decode cX10_readsTerm 18 = .ok (.aload_n 0, 1) := by decide +kernel
theorem dX10_readsTerm_19 : decode cX10_readsTerm 19 = .ok (.getfield 13, 3) := by decide +kernel
theorem dX10_readsTerm_22 : decode cX10_readsTerm 22 = .ok (.i2l, 1) := by decide +kernel
theorem dX10_readsTerm_23 : decode cX10_readsTerm 23 = .ok (.lrem, 1) := by decide +kernel
theorem dX10_readsTerm_24 : decode cX10_readsTerm 24 = .ok (.putfield 170, 3) := by decide +kernel
theorem dX10_readsTerm_27 : decode cX10_readsTerm 27 = .ok (.iconst 0, 1) := by decide +kernel
theorem dX10_readsTerm_28 : decode cX10_readsTerm 28 = .ok (.istore_n 2, 1) := by decide +kernel
theorem dX10_readsTerm_29 : decode cX10_readsTerm 29 = .ok (.iload_n 2, 1) := by decide +kernel
theorem dX10_readsTerm_30 : decode cX10_readsTerm 30 = .ok (.iconst 3, 1) := by decide +kernel
theorem dX10_readsTerm_31 : decode cX10_readsTerm 31 = .ok (.if_icmp .ge 16, 3) := by decide +kernel
theorem dX10_readsTerm_34 : decode cX10_readsTerm 34 = .ok (.aload_n 0, 1) := by decide +kernel
theorem dX10_readsTerm_35 : decode cX10_readsTerm 35 = .ok (.getfield 43, 3) := by decide +kernel
theorem dX10_readsTerm_38 : decode cX10_readsTerm 38 = .ok (.iload_n 2, 1) := by decide +kernel
theorem dX10_readsTerm_39 : decode cX10_readsTerm 39 = .ok (.iconst 0, 1) := by decide +kernel
theorem dX10_readsTerm_40 : decode cX10_readsTerm 40 = .ok (.iastore, 1) := by decide +kernel
theorem dX10_readsTerm_41 : decode cX10_readsTerm 41 = .ok (.iinc 2 1, 3) := by decide +kernel
theorem dX10_readsTerm_44 : decode cX10_readsTerm 44 = .ok (.goto (-15), 3) := by decide +kernel
theorem dX10_readsTerm_47 : decode cX10_readsTerm 47 = .ok (.aload_n 0, 1) := by decide +kernel
theorem dX10_readsTerm_48 : decode cX10_readsTerm 48 = .ok (.invokevirtual 177, 3) := by decide +kernel
theorem dX10_readsTerm_51 : decode cX10_readsTerm 51 = .ok (.ifCond .eq 10, 3) := by decide +kernel
theorem dX10_readsTerm_54 : decode cX10_readsTerm 54 = .ok (.aload_n 0, 1) := by decide +kernel
theorem dX10_readsTerm_55 : decode cX10_readsTerm 55 = .ok (.invokevirtual 181, 3) := by decide +kernel
theorem dX10_readsTerm_58 : decode cX10_readsTerm 58 = .ok (.goto (-11), 3) := by decide +kernel
theorem dX10_readsTerm_61 : decode cX10_readsTerm 61 = .ok (.aload_n 0, 1) := by decide +kernel
theorem dX10_readsTerm_62 : decode cX10_readsTerm 62 = .ok (.getfield 150, 3) := by decide +kernel
theorem dX10_readsTerm_65 : decode cX10_readsTerm 65 = .ok (.ifCond .ne 45, 3) := by decide +kernel
theorem dX10_readsTerm_68 : decode cX10_readsTerm 68 = .ok (.aload_n 0, 1) := by decide +kernel
theorem dX10_readsTerm_69 : decode cX10_readsTerm 69 = .ok (.aload_n 0, 1) := by decide +kernel
theorem dX10_readsTerm_70 : decode cX10_readsTerm 70 = .ok (.iload_n 1, 1) := by decide +kernel
theorem dX10_readsTerm_71 : decode cX10_readsTerm 71 = .ok (.ifCond .eq 11, 3) := by decide +kernel
theorem dX10_readsTerm_74 : decode cX10_readsTerm 74 = .ok (.aload_n 0, 1) := by decide +kernel
theorem dX10_readsTerm_75 : decode cX10_readsTerm 75 = .ok (.getfield 170, 3) := by decide +kernel
theorem dX10_readsTerm_78 : decode cX10_readsTerm 78 = .ok (.lneg, 1) := by decide +kernel
theorem dX10_readsTerm_79 : decode cX10_readsTerm 79 = .ok (.goto 7, 3) := by decide +kernel
theorem dX10_readsTerm_82 : decode cX10_readsTerm 82 = .ok (.aload_n 0, 1) := by decide +kernel
theorem dX10_readsTerm_83 : decode cX10_readsTerm 83 = .ok (.getfield 170, 3) := by decide +kernel
theorem dX10_readsTerm_86 : decode cX10_readsTerm 86 = .ok (.invokevirtual 184, 3) := by decide +kernel
theorem dX10_readsTerm_89 : decode cX10_readsTerm 89 = .ok (.aload_n 0, 1) := by decide +kernel
theorem dX10_readsTerm_90 : decode cX10_readsTerm 90 = .ok (.getfield 43, 3) := by decide +kernel
theorem dX10_readsTerm_93 : decode cX10_readsTerm 93 = .ok (.iconst 0, 1) := by decide +kernel
theorem dX10_readsTerm_94 : decode cX10_readsTerm 94 = .ok (.iaload, 1) := by decide +kernel
theorem dX10_readsTerm_95 : decode cX10_readsTerm 95 = .ok (.aload_n 0, 1) := by decide +kernel
theorem dX10_readsTerm_96 : decode cX10_readsTerm 96 = .ok (.getfield 43, 3) := by decide +kernel
theorem dX10_readsTerm_99 : decode cX10_readsTerm 99 = .ok (.iconst 1, 1) := by decide +kernel
theorem dX10_readsTerm_100 : decode cX10_readsTerm 100 = .ok (.iaload, 1) := by decide +kernel
theorem dX10_readsTerm_101 : decode cX10_readsTerm 101 = .ok (.aload_n 0, 1) := by decide +kernel
theorem dX10_readsTerm_102 : decode cX10_readsTerm 102 = .ok (.getfield 43, 3) := by decide +kernel
theorem dX10_readsTerm_105 : decode cX10_readsTerm 105 = .ok (.iconst 2, 1) := by decide +kernel
theorem dX10_readsTerm_106 : decode cX10_readsTerm 106 = .ok (.iaload, 1) := by decide +kernel
theorem dX10_readsTerm_107 : decode cX10_readsTerm 107 = .ok (.invokevirtual 100, 3) := by decide +kernel
theorem dX10_readsTerm_110 : decode cX10_readsTerm 110 = .ok (.return_, 1) := by decide +kernel
theorem dX10_passes_0 : decode cX10_passes 0 = .ok (.aload_n 0, 1) := by decide +kernel
theorem dX10_passes_1 : decode cX10_passes 1 = .ok (.getfield 150, 3) := by decide +kernel
theorem dX10_passes_4 : decode cX10_passes 4 = .ok (.ifCond .ne 15, 3) := by decide +kernel
theorem dX10_passes_7 : decode cX10_passes 7 = .ok (.aload_n 0, 1) := by decide +kernel
theorem dX10_passes_8 : decode cX10_passes 8 = .ok (.aload_n 0, 1) := by decide +kernel
theorem dX10_passes_9 : decode cX10_passes 9 = .ok (.getfield 144, 3) := by decide +kernel
theorem dX10_passes_12 : decode cX10_passes 12 = .ok (.invokevirtual 147, 3) := by decide +kernel
theorem dX10_passes_15 : decode cX10_passes 15 = .ok (.iload_n 1, 1) := by decide +kernel
theorem dX10_passes_16 : decode cX10_passes 16 = .ok (.if_icmp .eq 5, 3) := by decide +kernel
theorem dX10_passes_19 : decode cX10_passes 19 = .ok (.iconst 0, 1) := by decide +kernel
theorem dX10_passes_20 : decode cX10_passes 20 = .ok (.ireturn, 1) := by decide +kernel
theorem dX10_passes_21 : decode cX10_passes 21 = .ok (.aload_n 0, 1) := by decide +kernel
theorem dX10_passes_22 : decode cX10_passes 22 = .ok (.aload_n 0, 1) := by decide +kernel
theorem dX10_passes_23 : decode cX10_passes 23 = .ok (.getfield 144, 3) := by decide +kernel
theorem dX10_passes_26 : decode cX10_passes 26 = .ok (.iconst 1, 1) := by decide +kernel
theorem dX10_passes_27 : decode cX10_passes 27 = .ok (.iadd, 1) := by decide +kernel
theorem dX10_passes_28 : decode cX10_passes 28 = .ok (.putfield 144, 3) := by decide +kernel
theorem dX10_passes_31 : decode cX10_passes 31 = .ok (.aload_n 0, 1) := by decide +kernel
theorem dX10_passes_32 : decode cX10_passes 32 = .ok (.invokevirtual 167, 3) := by decide +kernel
theorem dX10_passes_35 : decode cX10_passes 35 = .ok (.iconst 1, 1) := by decide +kernel
theorem dX10_passes_36 : decode cX10_passes 36 = .ok (.ireturn, 1) := by decide +kernel
theorem dX10_poly_0 : decode cX10_poly 0 = .ok (.aload_n 0, 1) := by decide +kernel
theorem dX10_poly_1 : decode cX10_poly 1 = .ok (.iconst 0, 1) := by decide +kernel
theorem dX10_poly_2 : decode cX10_poly 2 = .ok (.putfield 65, 3) := by decide +kernel
theorem dX10_poly_5 : decode cX10_poly 5 = .ok (.aload_n 0, 1) := by decide +kernel
theorem dX10_poly_6 : decode cX10_poly 6 = .ok (.iconst 0, 1) := by decide +kernel
theorem dX10_poly_7 : decode cX10_poly 7 = .ok (.putfield 150, 3) := by decide +kernel
theorem dX10_poly_10 : decode cX10_poly 10 = .ok (.aload_n 0, 1) := by decide +kernel
theorem dX10_poly_11 : decode cX10_poly 11 = .ok (.iconst 0, 1) := by decide +kernel
theorem dX10_poly_12 : decode cX10_poly 12 = .ok (.putfield 153, 3) := by decide +kernel
theorem dX10_poly_15 : decode cX10_poly 15 = .ok (.aload_n 0, 1) := by decide +kernel
theorem dX10_poly_16 : decode cX10_poly 16 = .ok (.iconst (-1), 1) := by decide +kernel
theorem dX10_poly_17 : decode cX10_poly 17 = .ok (.putfield 40, 3) := by decide +kernel
theorem dX10_poly_20 : decode cX10_poly 20 = .ok (.aload_n 0, 1) := by decide +kernel
theorem dX10_poly_21 : decode cX10_poly 21 = .ok (.getfield 137, 3) := by decide +kernel
theorem dX10_poly_24 : decode cX10_poly 24 = .ok (.istore_n 2, 1) := by decide +kernel
theorem dX10_poly_25 : decode cX10_poly 25 = .ok (.aload_n 0, 1) := by decide +kernel
theorem dX10_poly_26 : decode cX10_poly 26 = .ok (.iload_n 1, 1) := by decide +kernel
theorem dX10_poly_27 : decode cX10_poly 27 = .ok (.invokevirtual 188, 3) := by decide +kernel
theorem dX10_poly_30 : decode cX10_poly 30 = .ok (.ifCond .ne 10, 3) := by decide +kernel
theorem dX10_poly_33 : decode cX10_poly 33 = .ok (.aload_n 0, 1) := by decide +kernel
theorem dX10_poly_34 : decode cX10_poly 34 = .ok (.iconst 0, 1) := by decide +kernel
theorem dX10_poly_35 : decode cX10_poly 35 = .ok (.putfield 137, 3) := by decide +kernel
theorem dX10_poly_38 : decode cX10_poly 38 = .ok (.iconst (-1), 1) := by decide +kernel
theorem dX10_poly_39 : decode cX10_poly 39 = .ok (.ireturn, 1) := by decide +kernel
theorem dX10_poly_40 : decode cX10_poly 40 = .ok (.aload_n 0, 1) := by decide +kernel
theorem dX10_poly_41 : decode cX10_poly 41 = .ok (.iconst 0, 1) := by decide +kernel
theorem dX10_poly_42 : decode cX10_poly 42 = .ok (.putfield 144, 3) := by decide +kernel
theorem dX10_poly_45 : decode cX10_poly 45 = .ok (.aload_n 0, 1) := by decide +kernel
theorem dX10_poly_46 : decode cX10_poly 46 = .ok (.iconst 0, 1) := by decide +kernel
theorem dX10_poly_47 : decode cX10_poly 47 = .ok (.putfield 93, 3) := by decide +kernel
theorem dX10_poly_50 : decode cX10_poly 50 = .ok (.aload_n 0, 1) := by decide +kernel
theorem dX10_poly_51 : decode cX10_poly 51 = .ok (.invokevirtual 167, 3) := by decide +kernel
theorem dX10_poly_54 : decode cX10_poly 54 = .ok (.aload_n 0, 1) := by decide +kernel
theorem dX10_poly_55 : decode cX10_poly 55 = .ok (.aload_n 0, 1) := by decide +kernel
theorem dX10_poly_56 : decode cX10_poly 56 = .ok (.bipush 45, 2) := by decide +kernel
theorem dX10_poly_58 : decode cX10_poly 58 = .ok (.invokevirtual 191, 3) := by decide +kernel
theorem dX10_poly_61 : decode cX10_poly 61 = .ok (.invokevirtual 194, 3) := by decide +kernel
theorem dX10_poly_64 : decode cX10_poly 64 = .ok (.iconst 1, 1) := by decide +kernel
theorem dX10_poly_65 : decode cX10_poly 65 = .ok (.istore_n 3, 1) := by decide +kernel
theorem dX10_poly_66 : decode cX10_poly 66 = .ok (.iload_n 3, 1) := by decide +kernel
theorem dX10_poly_67 : decode cX10_poly 67 = .ok (.ifCond .eq 61, 3) := by decide +kernel
theorem dX10_poly_70 : decode cX10_poly 70 = .ok (.aload_n 0, 1) := by decide +kernel
theorem dX10_poly_71 : decode cX10_poly 71 = .ok (.bipush 43, 2) := by decide +kernel
theorem dX10_poly_73 : decode cX10_poly 73 = .ok (.invokevirtual 191, 3) := by decide +kernel
theorem dX10_poly_76 : decode cX10_poly 76 = .ok (.istore 4, 2) := by decide +kernel
theorem dX10_poly_78 : decode cX10_poly 78 = .ok (.iload 4, 2) := by decide +kernel
theorem dX10_poly_80 : decode cX10_poly 80 = .ok (.ifCond .ne 16, 3) := by decide +kernel
theorem dX10_poly_83 : decode cX10_poly 83 = .ok (.aload_n 0, 1) := by decide +kernel
theorem dX10_poly_84 : decode cX10_poly 84 = .ok (.bipush 45, 2) := by decide +kernel
theorem dX10_poly_86 : decode cX10_poly 86 = .ok (.invokevirtual 191, 3) := by decide +kernel
theorem dX10_poly_89 : decode cX10_poly 89 = .ok (.ifCond .eq 7, 3) := by decide +kernel
theorem dX10_poly_92 : decode cX10_poly 92 = .ok (.iconst 1, 1) := by decide +kernel
theorem dX10_poly_93 : decode cX10_poly 93 = .ok (.goto 4, 3) := by decide +kernel
theorem dX10_poly_96 : decode cX10_poly 96 = .ok (.iconst 0, 1) := by decide +kernel
theorem dX10_poly_97 : decode cX10_poly 97 = .ok (.istore 5, 2) := by decide +kernel
theorem dX10_poly_99 : decode cX10_poly 99 = .ok (.iload 4, 2) := by decide +kernel
theorem dX10_poly_101 : decode cX10_poly 101 = .ok (.ifCond .ne 8, 3) := by decide +kernel
theorem dX10_poly_104 : decode cX10_poly 104 = .ok (.iload 5, 2) := by decide +kernel
theorem dX10_poly_106 : decode cX10_poly 106 = .ok (.ifCond .eq 7, 3) := by decide +kernel
theorem dX10_poly_109 : decode cX10_poly 109 = .ok (.iconst 1, 1) := by decide +kernel
theorem dX10_poly_110 : decode cX10_poly 110 = .ok (.goto 4, 3) := by decide +kernel
theorem dX10_poly_113 : decode cX10_poly 113 = .ok (.iconst 0, 1) := by decide +kernel
theorem dX10_poly_114 : decode cX10_poly 114 = .ok (.istore_n 3, 1) := by decide +kernel
theorem dX10_poly_115 : decode cX10_poly 115 = .ok (.iload_n 3, 1) := by decide +kernel
theorem dX10_poly_116 : decode cX10_poly 116 = .ok (.ifCond .eq 9, 3) := by decide +kernel
theorem dX10_poly_119 : decode cX10_poly 119 = .ok (.aload_n 0, 1) := by decide +kernel
theorem dX10_poly_120 : decode cX10_poly 120 = .ok (.iload 5, 2) := by decide +kernel
theorem dX10_poly_122 : decode cX10_poly 122 = .ok (.invokevirtual 194, 3) := by decide +kernel
theorem dX10_poly_125 : decode cX10_poly 125 = .ok (.goto (-59), 3) := by decide +kernel
theorem dX10_poly_128 : decode cX10_poly 128 = .ok (.aload_n 0, 1) := by decide +kernel
theorem dX10_poly_129 : decode cX10_poly 129 = .ok (.getfield 150, 3) := by decide +kernel
theorem dX10_poly_132 : decode cX10_poly 132 = .ok (.ifCond .ne 23, 3) := by decide +kernel
theorem dX10_poly_135 : decode cX10_poly 135 = .ok (.aload_n 0, 1) := by decide +kernel
theorem dX10_poly_136 : decode cX10_poly 136 = .ok (.getfield 144, 3) := by decide +kernel
theorem dX10_poly_139 : decode cX10_poly 139 = .ok (.aload_n 0, 1) := by decide +kernel
theorem dX10_poly_140 : decode cX10_poly 140 = .ok (.getfield 137, 3) := by decide +kernel
theorem dX10_poly_143 : decode cX10_poly 143 = .ok (.if_icmp .ge 12, 3) := by decide +kernel
theorem dX10_poly_146 : decode cX10_poly 146 = .ok (.aload_n 0, 1) := by decide +kernel
theorem dX10_poly_147 : decode cX10_poly 147 = .ok (.iconst 1, 1) := by decide +kernel
theorem dX10_poly_148 : decode cX10_poly 148 = .ok (.aload_n 0, 1) := by decide +kernel
theorem dX10_poly_149 : decode cX10_poly 149 = .ok (.getfield 144, 3) := by decide +kernel
theorem dX10_poly_152 : decode cX10_poly 152 = .ok (.invokevirtual 163, 3) := by decide +kernel
theorem dX10_poly_155 : decode cX10_poly 155 = .ok (.aload_n 0, 1) := by decide +kernel
theorem dX10_poly_156 : decode cX10_poly 156 = .ok (.iconst 0, 1) := by decide +kernel
theorem dX10_poly_157 : decode cX10_poly 157 = .ok (.putfield 137, 3) := by decide +kernel
theorem dX10_poly_160 : decode cX10_poly 160 = .ok (.aload_n 0, 1) := by decide +kernel
theorem dX10_poly_161 : decode cX10_poly 161 = .ok (.getfield 150, 3) := by decide +kernel
theorem dX10_poly_164 : decode cX10_poly 164 = .ok (.ifCond .ne 19, 3) := by decide +kernel
theorem dX10_poly_167 : decode cX10_poly 167 = .ok (.aload_n 0, 1) := by decide +kernel
theorem dX10_poly_168 : decode cX10_poly 168 = .ok (.sipush 290, 3) := by decide +kernel
theorem dX10_poly_171 : decode cX10_poly 171 = .ok (.invokevirtual 128, 3) := by decide +kernel
theorem dX10_poly_174 : decode cX10_poly 174 = .ok (.ifCond .ne 9, 3) := by decide +kernel
theorem dX10_poly_177 : decode cX10_poly 177 = .ok (.aload_n 0, 1) := by decide +kernel
theorem dX10_poly_178 : decode cX10_poly 178 = .ok (.iconst 3, 1) := by decide +kernel
theorem dX10_poly_179 : decode cX10_poly 179 = .ok (.iload_n 2, 1) := by decide +kernel
theorem dX10_poly_180 : decode cX10_poly 180 = .ok (.invokevirtual 163, 3) := by decide +kernel
theorem dX10_poly_183 : decode cX10_poly 183 = .ok (.aload_n 0, 1) := by decide +kernel
theorem dX10_poly_184 : decode cX10_poly 184 = .ok (.getfield 150, 3) := by decide +kernel
theorem dX10_poly_187 : decode cX10_poly 187 = .ok (.ifCond .eq 5, 3) := by decide +kernel
theorem dX10_poly_190 : decode cX10_poly 190 = .ok (.iconst (-1), 1) := by decide +kernel
theorem dX10_poly_191 : decode cX10_poly 191 = .ok (.ireturn, 1) := by decide +kernel
theorem dX10_poly_192 : decode cX10_poly 192 = .ok (.aload_n 0, 1) := by decide +kernel
theorem dX10_poly_193 : decode cX10_poly 193 = .ok (.sipush 290, 3) := by decide +kernel
theorem dX10_poly_196 : decode cX10_poly 196 = .ok (.iload_n 1, 1) := by decide +kernel
theorem dX10_poly_197 : decode cX10_poly 197 = .ok (.invokevirtual 198, 3) := by decide +kernel
theorem dX10_poly_200 : decode cX10_poly 200 = .ok (.aload_n 0, 1) := by decide +kernel
theorem dX10_poly_201 : decode cX10_poly 201 = .ok (.getfield 20, 3) := by decide +kernel
theorem dX10_poly_204 : decode cX10_poly 204 = .ok (.iload_n 1, 1) := by decide +kernel
theorem dX10_poly_205 : decode cX10_poly 205 = .ok (.iaload, 1) := by decide +kernel
theorem dX10_poly_206 : decode cX10_poly 206 = .ok (.ireturn, 1) := by decide +kernel
theorem dX10_fault_0 : decode cX10_fault 0 = .ok (.aload_n 0, 1) := by decide +kernel
theorem dX10_fault_1 : decode cX10_fault 1 = .ok (.iconst 0, 1) := by decide +kernel
theorem dX10_fault_2 : decode cX10_fault 2 = .ok (.putfield 65, 3) := by decide +kernel
theorem dX10_fault_5 : decode cX10_fault 5 = .ok (.iload_n 1, 1) := by decide +kernel
theorem dX10_fault_6 : decode cX10_fault 6 = .ok (.ifCond .ne 10, 3) := by decide +kernel
theorem dX10_fault_9 : decode cX10_fault 9 = .ok (.aload_n 0, 1) := by decide +kernel
theorem dX10_fault_10 : decode cX10_fault 10 = .ok (.getfield 153, 3) := by decide +kernel
theorem dX10_fault_13 : decode cX10_fault 13 = .ok (.goto 16, 3) := by decide +kernel
theorem dX10_fault_16 : decode cX10_fault 16 = .ok (.iload_n 1, 1) := by decide +kernel
theorem dX10_fault_17 : decode cX10_fault 17 = .ok (.iconst 1, 1) := by decide +kernel
theorem dX10_fault_18 : decode cX10_fault 18 = .ok (.if_icmp .ne 10, 3) := by decide +kernel
theorem dX10_fault_21 : decode cX10_fault 21 = .ok (.aload_n 0, 1) := by decide +kernel
theorem dX10_fault_22 : decode cX10_fault 22 = .ok (.getfield 40, 3) := by decide +kernel
theorem dX10_fault_25 : decode cX10_fault 25 = .ok (.goto 4, 3) := by decide +kernel
theorem dX10_fault_28 : decode cX10_fault 28 = .ok (.iconst (-1), 1) := by decide +kernel
theorem dX10_fault_29 : decode cX10_fault 29 = .ok (.ireturn, 1) := by decide +kernel
theorem dX10_feed_0 : decode cX10_feed 0 = .ok (.aload_n 0, 1) := by decide +kernel
theorem dX10_feed_1 : decode cX10_feed 1 = .ok (.iconst 0, 1) := by decide +kernel
theorem dX10_feed_2 : decode cX10_feed 2 = .ok (.putfield 65, 3) := by decide +kernel
theorem dX10_feed_5 : decode cX10_feed 5 = .ok (.aload_n 0, 1) := by decide +kernel
theorem dX10_feed_6 : decode cX10_feed 6 = .ok (.getfield 137, 3) := by decide +kernel
theorem dX10_feed_9 : decode cX10_feed 9 = .ok (.bipush 20, 2) := by decide +kernel
theorem dX10_feed_11 : decode cX10_feed 11 = .ok (.iadd, 1) := by decide +kernel
theorem dX10_feed_12 : decode cX10_feed 12 = .ok (.sipush 200, 3) := by decide +kernel
theorem dX10_feed_15 : decode cX10_feed 15 = .ok (.if_icmp .le 5, 3) := by decide +kernel
theorem dX10_feed_18 : decode cX10_feed 18 = .ok (.iconst (-1), 1) := by decide +kernel
theorem dX10_feed_19 : decode cX10_feed 19 = .ok (.ireturn, 1) := by decide +kernel
theorem dX10_feed_20 : decode cX10_feed 20 = .ok (.iconst 0, 1) := by decide +kernel
theorem dX10_feed_21 : decode cX10_feed 21 = .ok (.istore 6, 2) := by decide +kernel
theorem dX10_feed_23 : decode cX10_feed 23 = .ok (.iload 6, 2) := by decide +kernel
theorem dX10_feed_25 : decode cX10_feed 25 = .ok (.bipush 20, 2) := by decide +kernel
theorem dX10_feed_27 : decode cX10_feed 27 = .ok (.if_icmp .ge 90, 3) := by decide +kernel
theorem dX10_feed_30 : decode cX10_feed 30 = .ok (.iload 6, 2) := by decide +kernel
theorem dX10_feed_32 : decode cX10_feed 32 = .ok (.iconst 4, 1) := by decide +kernel
theorem dX10_feed_33 : decode cX10_feed 33 = .ok (.if_icmp .ge 7, 3) := by decide +kernel
theorem dX10_feed_36 : decode cX10_feed 36 = .ok (.iload_n 1, 1) := by decide +kernel
theorem dX10_feed_37 : decode cX10_feed 37 = .ok (.goto 39, 3) := by decide +kernel
theorem dX10_feed_40 : decode cX10_feed 40 = .ok (.iload 6, 2) := by decide +kernel
theorem dX10_feed_42 : decode cX10_feed 42 = .ok (.bipush 8, 2) := by decide +kernel
theorem dX10_feed_44 : decode cX10_feed 44 = .ok (.if_icmp .ge 7, 3) := by decide +kernel
theorem dX10_feed_47 : decode cX10_feed 47 = .ok (.iload_n 2, 1) := by decide +kernel
theorem dX10_feed_48 : decode cX10_feed 48 = .ok (.goto 28, 3) := by decide +kernel
theorem dX10_feed_51 : decode cX10_feed 51 = .ok (.iload 6, 2) := by decide +kernel
theorem dX10_feed_53 : decode cX10_feed 53 = .ok (.bipush 12, 2) := by decide +kernel
theorem dX10_feed_55 : decode cX10_feed 55 = .ok (.if_icmp .ge 7, 3) := by decide +kernel
theorem dX10_feed_58 : decode cX10_feed 58 = .ok (.iload_n 3, 1) := by decide +kernel
theorem dX10_feed_59 : decode cX10_feed 59 = .ok (.goto 17, 3) := by decide +kernel
theorem dX10_feed_62 : decode cX10_feed 62 = .ok (.iload 6, 2) := by decide +kernel
theorem dX10_feed_64 : decode cX10_feed 64 = .ok (.bipush 16, 2) := by decide +kernel
theorem dX10_feed_66 : decode cX10_feed 66 = .ok (.if_icmp .ge 8, 3) := by decide +kernel
theorem dX10_feed_69 : decode cX10_feed 69 = .ok (.iload 4, 2) := by decide +kernel
theorem dX10_feed_71 : decode cX10_feed 71 = .ok (.goto 5, 3) := by decide +kernel
theorem dX10_feed_74 : decode cX10_feed 74 = .ok (.iload 5, 2) := by decide +kernel
theorem dX10_feed_76 : decode cX10_feed 76 = .ok (.istore 7, 2) := by decide +kernel
theorem dX10_feed_78 : decode cX10_feed 78 = .ok (.aload_n 0, 1) := by decide +kernel
theorem dX10_feed_79 : decode cX10_feed 79 = .ok (.getfield 36, 3) := by decide +kernel
theorem dX10_feed_82 : decode cX10_feed 82 = .ok (.aload_n 0, 1) := by decide +kernel
theorem dX10_feed_83 : decode cX10_feed 83 = .ok (.getfield 137, 3) := by decide +kernel
theorem dX10_feed_86 : decode cX10_feed 86 = .ok (.iload 7, 2) := by decide +kernel
theorem dX10_feed_88 : decode cX10_feed 88 = .ok (.bipush 24, 2) := by decide +kernel
theorem dX10_feed_90 : decode cX10_feed 90 = .ok (.bipush 8, 2) := by decide +kernel
theorem dX10_feed_92 : decode cX10_feed 92 = .ok (.iload 6, 2) := by decide +kernel
theorem dX10_feed_94 : decode cX10_feed 94 = .ok (.iconst 4, 1) := by decide +kernel
theorem dX10_feed_95 : decode cX10_feed 95 = .ok (.irem, 1) := by decide +kernel
theorem dX10_feed_96 : decode cX10_feed 96 = .ok (.imul, 1) := by decide +kernel
theorem dX10_feed_97 : decode cX10_feed 97 = .ok (.isub, 1) := by decide +kernel
theorem dX10_feed_98 : decode cX10_feed 98 = .ok (.ishr, 1) := by decide +kernel
theorem dX10_feed_99 : decode cX10_feed 99 = .ok (.i2b, 1) := by decide +kernel
theorem dX10_feed_100 : decode cX10_feed 100 = .ok (.bastore, 1) := by decide +kernel
theorem dX10_feed_101 : decode cX10_feed 101 = .ok (.aload_n 0, 1) := by decide +kernel
theorem dX10_feed_102 : decode cX10_feed 102 = .ok (.aload_n 0, 1) := by decide +kernel
theorem dX10_feed_103 : decode cX10_feed 103 = .ok (.getfield 137, 3) := by decide +kernel
theorem dX10_feed_106 : decode cX10_feed 106 = .ok (.iconst 1, 1) := by decide +kernel
theorem dX10_feed_107 : decode cX10_feed 107 = .ok (.iadd, 1) := by decide +kernel
theorem dX10_feed_108 : decode cX10_feed 108 = .ok (.putfield 137, 3) := by decide +kernel
theorem dX10_feed_111 : decode cX10_feed 111 = .ok (.iinc 6 1, 3) := by decide +kernel
theorem dX10_feed_114 : decode cX10_feed 114 = .ok (.goto (-91), 3) := by decide +kernel
theorem dX10_feed_117 : decode cX10_feed 117 = .ok (.aload_n 0, 1) := by decide +kernel
theorem dX10_feed_118 : decode cX10_feed 118 = .ok (.getfield 137, 3) := by decide +kernel
theorem dX10_feed_121 : decode cX10_feed 121 = .ok (.ireturn, 1) := by decide +kernel
theorem dX10_end_0 : decode cX10_end 0 = .ok (.aload_n 0, 1) := by decide +kernel
theorem dX10_end_1 : decode cX10_end 1 = .ok (.iconst 0, 1) := by decide +kernel
theorem dX10_end_2 : decode cX10_end 2 = .ok (.putfield 65, 3) := by decide +kernel
theorem dX10_end_5 : decode cX10_end 5 = .ok (.aload_n 0, 1) := by decide +kernel
theorem dX10_end_6 : decode cX10_end 6 = .ok (.iload_n 1, 1) := by decide +kernel
theorem dX10_end_7 : decode cX10_end 7 = .ok (.i2l, 1) := by decide +kernel
theorem dX10_end_8 : decode cX10_end 8 = .ok (.lconst 0, 1) := by decide +kernel
theorem dX10_end_9 : decode cX10_end 9 = .ok (.aload_n 0, 1) := by decide +kernel
theorem dX10_end_10 : decode cX10_end 10 = .ok (.getfield 137, 3) := by decide +kernel
theorem dX10_end_13 : decode cX10_end 13 = .ok (.i2l, 1) := by decide +kernel
theorem dX10_end_14 : decode cX10_end 14 = .ok (.invokevirtual 106, 3) := by decide +kernel
theorem dX10_end_17 : decode cX10_end 17 = .ok (.ifCond .ne 5, 3) := by decide +kernel
theorem dX10_end_20 : decode cX10_end 20 = .ok (.iconst 0, 1) := by decide +kernel
theorem dX10_end_21 : decode cX10_end 21 = .ok (.ireturn, 1) := by decide +kernel
theorem dX10_end_22 : decode cX10_end 22 = .ok (.aload_n 0, 1) := by decide +kernel
theorem dX10_end_23 : decode cX10_end 23 = .ok (.iload_n 1, 1) := by decide +kernel
theorem dX10_end_24 : decode cX10_end 24 = .ok (.putfield 137, 3) := by decide +kernel
theorem dX10_end_27 : decode cX10_end 27 = .ok (.iconst 1, 1) := by decide +kernel
theorem dX10_end_28 : decode cX10_end 28 = .ok (.ireturn, 1) := by decide +kernel
theorem dX10_says_0 : decode cX10_says 0 = .ok (.aload_n 0, 1) := by decide +kernel
theorem dX10_says_1 : decode cX10_says 1 = .ok (.getfield 46, 3) := by decide +kernel
theorem dX10_says_4 : decode cX10_says 4 = .ok (.aload_n 0, 1) := by decide +kernel
theorem dX10_says_5 : decode cX10_says 5 = .ok (.getfield 201, 3) := by decide +kernel
theorem dX10_says_8 : decode cX10_says 8 = .ok (.iload_n 1, 1) := by decide +kernel
theorem dX10_says_9 : decode cX10_says 9 = .ok (.iastore, 1) := by decide +kernel
theorem dX10_says_10 : decode cX10_says 10 = .ok (.aload_n 0, 1) := by decide +kernel
theorem dX10_says_11 : decode cX10_says 11 = .ok (.aload_n 0, 1) := by decide +kernel
theorem dX10_says_12 : decode cX10_says 12 = .ok (.getfield 201, 3) := by decide +kernel
theorem dX10_says_15 : decode cX10_says 15 = .ok (.iconst 1, 1) := by decide +kernel
theorem dX10_says_16 : decode cX10_says 16 = .ok (.iadd, 1) := by decide +kernel
theorem dX10_says_17 : decode cX10_says 17 = .ok (.putfield 201, 3) := by decide +kernel
theorem dX10_says_20 : decode cX10_says 20 = .ok (.return_, 1) := by decide +kernel
theorem dX10_saysNumber_0 : decode cX10_saysNumber 0 = .ok (.iload_n 1, 1) := by decide +kernel
theorem dX10_saysNumber_1 : decode cX10_saysNumber 1 = .ok (.bipush 9, 2) := by decide +kernel
theorem dX10_saysNumber_3 : decode cX10_saysNumber 3 = .ok (.if_icmp .le 11, 3) := by decide +kernel
theorem dX10_saysNumber_6 : decode cX10_saysNumber 6 = .ok (.aload_n 0, 1) := by decide +kernel
theorem dX10_saysNumber_7 : decode cX10_saysNumber 7 = .ok (.iload_n 1, 1) := by decide +kernel
theorem dX10_saysNumber_8 : decode cX10_saysNumber 8 = .ok (.bipush 10, 2) := by decide +kernel
theorem dX10_saysNumber_10 : decode cX10_saysNumber 10 = .ok (.idiv, 1) := by decide +kernel
theorem dX10_saysNumber_11 : decode cX10_saysNumber 11 = .ok (.invokevirtual 204, 3) := by decide +kernel
theorem dX10_saysNumber_14 : decode cX10_saysNumber 14 = .ok (.aload_n 0, 1) := by decide +kernel
theorem dX10_saysNumber_15 : decode cX10_saysNumber 15 = .ok (.bipush 48, 2) := by decide +kernel
theorem dX10_saysNumber_17 : decode cX10_saysNumber 17 = .ok (.iload_n 1, 1) := by decide +kernel
theorem dX10_saysNumber_18 : decode cX10_saysNumber 18 = .ok (.bipush 10, 2) := by decide +kernel
theorem dX10_saysNumber_20 : decode cX10_saysNumber 20 = .ok (.irem, 1) := by decide +kernel
theorem dX10_saysNumber_21 : decode cX10_saysNumber 21 = .ok (.iadd, 1) := by decide +kernel
theorem dX10_saysNumber_22 : decode cX10_saysNumber 22 = .ok (.invokevirtual 207, 3) := by decide +kernel
theorem dX10_saysNumber_25 : decode cX10_saysNumber 25 = .ok (.return_, 1) := by decide +kernel
theorem dX10_saysTerm_0 : decode cX10_saysTerm 0 = .ok (.aload_n 0, 1) := by decide +kernel
theorem dX10_saysTerm_1 : decode cX10_saysTerm 1 = .ok (.iload_n 1, 1) := by decide +kernel
theorem dX10_saysTerm_2 : decode cX10_saysTerm 2 = .ok (.iload_n 2, 1) := by decide +kernel
theorem dX10_saysTerm_3 : decode cX10_saysTerm 3 = .ok (.invokevirtual 79, 3) := by decide +kernel
theorem dX10_saysTerm_6 : decode cX10_saysTerm 6 = .ok (.ifCond .ne 7, 3) := by decide +kernel
theorem dX10_saysTerm_9 : decode cX10_saysTerm 9 = .ok (.iconst 1, 1) := by decide +kernel
theorem dX10_saysTerm_10 : decode cX10_saysTerm 10 = .ok (.goto 4, 3) := by decide +kernel
theorem dX10_saysTerm_13 : decode cX10_saysTerm 13 = .ok (.iconst 0, 1) := by decide +kernel
theorem dX10_saysTerm_14 : decode cX10_saysTerm 14 = .ok (.istore_n 3, 1) := by decide +kernel
theorem dX10_saysTerm_15 : decode cX10_saysTerm 15 = .ok (.aload_n 0, 1) := by decide +kernel
theorem dX10_saysTerm_16 : decode cX10_saysTerm 16 = .ok (.getfield 23, 3) := by decide +kernel
theorem dX10_saysTerm_19 : decode cX10_saysTerm 19 = .ok (.aload_n 0, 1) := by decide +kernel
theorem dX10_saysTerm_20 : decode cX10_saysTerm 20 = .ok (.iload_n 1, 1) := by decide +kernel
theorem dX10_saysTerm_21 : decode cX10_saysTerm 21 = .ok (.iload_n 2, 1) := by decide +kernel
theorem dX10_saysTerm_22 : decode cX10_saysTerm 22 = .ok (.invokevirtual 68, 3) := by decide +kernel
theorem dX10_saysTerm_25 : decode cX10_saysTerm 25 = .ok (.iaload, 1) := by decide +kernel
theorem dX10_saysTerm_26 : decode cX10_saysTerm 26 = .ok (.iconst 1, 1) := by decide +kernel
theorem dX10_saysTerm_27 : decode cX10_saysTerm 27 = .ok (.if_icmp .ne 7, 3) := by decide +kernel
theorem dX10_saysTerm_30 : decode cX10_saysTerm 30 = .ok (.iload_n 3, 1) := by decide +kernel
theorem dX10_saysTerm_31 : decode cX10_saysTerm 31 = .ok (.ifCond .eq 18, 3) := by decide +kernel
theorem dX10_saysTerm_34 : decode cX10_saysTerm 34 = .ok (.aload_n 0, 1) := by decide +kernel
theorem dX10_saysTerm_35 : decode cX10_saysTerm 35 = .ok (.aload_n 0, 1) := by decide +kernel
theorem dX10_saysTerm_36 : decode cX10_saysTerm 36 = .ok (.getfield 23, 3) := by decide +kernel
theorem dX10_saysTerm_39 : decode cX10_saysTerm 39 = .ok (.aload_n 0, 1) := by decide +kernel
theorem dX10_saysTerm_40 : decode cX10_saysTerm 40 = .ok (.iload_n 1, 1) := by decide +kernel
theorem dX10_saysTerm_41 : decode cX10_saysTerm 41 = .ok (.iload_n 2, 1) := by decide +kernel
theorem dX10_saysTerm_42 : decode cX10_saysTerm 42 = .ok (.invokevirtual 68, 3) := by decide +kernel
theorem dX10_saysTerm_45 : decode cX10_saysTerm 45 = .ok (.iaload, 1) := by decide +kernel
theorem dX10_saysTerm_46 : decode cX10_saysTerm 46 = .ok (.invokevirtual 204, 3) := by decide +kernel
theorem dX10_saysTerm_49 : decode cX10_saysTerm 49 = .ok (.iconst 0, 1) := by decide +kernel
theorem dX10_saysTerm_50 : decode cX10_saysTerm 50 = .ok (.istore 4, 2) := by decide +kernel
theorem dX10_saysTerm_52 : decode cX10_saysTerm 52 = .ok (.iload 4, 2) := by decide +kernel
theorem dX10_saysTerm_54 : decode cX10_saysTerm 54 = .ok (.iconst 3, 1) := by decide +kernel
theorem dX10_saysTerm_55 : decode cX10_saysTerm 55 = .ok (.if_icmp .ge 65, 3) := by decide +kernel
theorem dX10_saysTerm_58 : decode cX10_saysTerm 58 = .ok (.aload_n 0, 1) := by decide +kernel
theorem dX10_saysTerm_59 : decode cX10_saysTerm 59 = .ok (.iload_n 1, 1) := by decide +kernel
theorem dX10_saysTerm_60 : decode cX10_saysTerm 60 = .ok (.iload_n 2, 1) := by decide +kernel
theorem dX10_saysTerm_61 : decode cX10_saysTerm 61 = .ok (.iload 4, 2) := by decide +kernel
theorem dX10_saysTerm_63 : decode cX10_saysTerm 63 = .ok (.invokevirtual 72, 3) := by decide +kernel
theorem dX10_saysTerm_66 : decode cX10_saysTerm 66 = .ok (.ifCond .ne 6, 3) := by decide +kernel
theorem dX10_saysTerm_69 : decode cX10_saysTerm 69 = .ok (.goto 45, 3) := by decide +kernel
theorem dX10_saysTerm_72 : decode cX10_saysTerm 72 = .ok (.aload_n 0, 1) := by decide +kernel
theorem dX10_saysTerm_73 : decode cX10_saysTerm 73 = .ok (.bipush 120, 2) := by decide +kernel
theorem dX10_saysTerm_75 : decode cX10_saysTerm 75 = .ok (.iload 4, 2) := by decide +kernel
theorem dX10_saysTerm_77 : decode cX10_saysTerm 77 = .ok (.iadd, 1) := by decide +kernel
theorem dX10_saysTerm_78 : decode cX10_saysTerm 78 = .ok (.invokevirtual 207, 3) := by decide +kernel
theorem dX10_saysTerm_81 : decode cX10_saysTerm 81 = .ok (.aload_n 0, 1) := by decide +kernel
theorem dX10_saysTerm_82 : decode cX10_saysTerm 82 = .ok (.iload_n 1, 1) := by decide +kernel
theorem dX10_saysTerm_83 : decode cX10_saysTerm 83 = .ok (.iload_n 2, 1) := by decide +kernel
theorem dX10_saysTerm_84 : decode cX10_saysTerm 84 = .ok (.iload 4, 2) := by decide +kernel
theorem dX10_saysTerm_86 : decode cX10_saysTerm 86 = .ok (.invokevirtual 72, 3) := by decide +kernel
theorem dX10_saysTerm_89 : decode cX10_saysTerm 89 = .ok (.iconst 1, 1) := by decide +kernel
theorem dX10_saysTerm_90 : decode cX10_saysTerm 90 = .ok (.if_icmp .ne 6, 3) := by decide +kernel
theorem dX10_saysTerm_93 : decode cX10_saysTerm 93 = .ok (.goto 21, 3) := by decide +kernel
theorem dX10_saysTerm_96 : decode cX10_saysTerm 96 = .ok (.aload_n 0, 1) := by decide +kernel
theorem dX10_saysTerm_97 : decode cX10_saysTerm 97 = .ok (.bipush 94, 2) := by decide +kernel
theorem dX10_saysTerm_99 : decode cX10_saysTerm 99 = .ok (.invokevirtual 207, 3) := by decide +kernel
theorem dX10_saysTerm_102 : decode cX10_saysTerm 102 = .ok (.aload_n 0, 1) := by decide +kernel
theorem dX10_saysTerm_103 : decode cX10_saysTerm 103 = .ok (.aload_n 0, 1) := by decide +kernel
theorem dX10_saysTerm_104 : decode cX10_saysTerm 104 = .ok (.iload_n 1, 1) := by decide +kernel
theorem dX10_saysTerm_105 : decode cX10_saysTerm 105 = .ok (.iload_n 2, 1) := by decide +kernel
theorem dX10_saysTerm_106 : decode cX10_saysTerm 106 = .ok (.iload 4, 2) := by decide +kernel
theorem dX10_saysTerm_108 : decode cX10_saysTerm 108 = .ok (.invokevirtual 72, 3) := by decide +kernel
theorem dX10_saysTerm_111 : decode cX10_saysTerm 111 = .ok (.invokevirtual 204, 3) := by decide +kernel
theorem dX10_saysTerm_114 : decode cX10_saysTerm 114 = .ok (.iinc 4 1, 3) := by decide +kernel
theorem dX10_saysTerm_117 : decode cX10_saysTerm 117 = .ok (.goto (-65), 3) := by decide +kernel
theorem dX10_saysTerm_120 : decode cX10_saysTerm 120 = .ok (.return_, 1) := by decide +kernel
theorem dX10_show_0 : decode cX10_show 0 = .ok (.aload_n 0, 1) := by decide +kernel
theorem dX10_show_1 : decode cX10_show 1 = .ok (.iconst 0, 1) := by decide +kernel
theorem dX10_show_2 : decode cX10_show 2 = .ok (.putfield 65, 3) := by decide +kernel
theorem dX10_show_5 : decode cX10_show 5 = .ok (.aload_n 0, 1) := by decide +kernel
theorem dX10_show_6 : decode cX10_show 6 = .ok (.iload_n 1, 1) := by decide +kernel
theorem dX10_show_7 : decode cX10_show 7 = .ok (.invokevirtual 188, 3) := by decide +kernel
theorem dX10_show_10 : decode cX10_show 10 = .ok (.ifCond .ne 5, 3) := by decide +kernel
theorem dX10_show_13 : decode cX10_show 13 = .ok (.iconst (-1), 1) := by decide +kernel
theorem dX10_show_14 : decode cX10_show 14 = .ok (.ireturn, 1) := by decide +kernel
theorem dX10_show_15 : decode cX10_show 15 = .ok (.aload_n 0, 1) := by decide +kernel
theorem dX10_show_16 : decode cX10_show 16 = .ok (.iconst 0, 1) := by decide +kernel
theorem dX10_show_17 : decode cX10_show 17 = .ok (.putfield 201, 3) := by decide +kernel
theorem dX10_show_20 : decode cX10_show 20 = .ok (.aload_n 0, 1) := by decide +kernel
theorem dX10_show_21 : decode cX10_show 21 = .ok (.getfield 20, 3) := by decide +kernel
theorem dX10_show_24 : decode cX10_show 24 = .ok (.iload_n 1, 1) := by decide +kernel
theorem dX10_show_25 : decode cX10_show 25 = .ok (.iaload, 1) := by decide +kernel
theorem dX10_show_26 : decode cX10_show 26 = .ok (.ifCond .ne 9, 3) := by decide +kernel
theorem dX10_show_29 : decode cX10_show 29 = .ok (.aload_n 0, 1) := by decide +kernel
theorem dX10_show_30 : decode cX10_show 30 = .ok (.bipush 48, 2) := by decide +kernel
theorem dX10_show_32 : decode cX10_show 32 = .ok (.invokevirtual 207, 3) := by decide +kernel
theorem dX10_show_35 : decode cX10_show 35 = .ok (.iconst 0, 1) := by decide +kernel
theorem dX10_show_36 : decode cX10_show 36 = .ok (.istore_n 2, 1) := by decide +kernel
theorem dX10_show_37 : decode cX10_show 37 = .ok (.iload_n 2, 1) := by decide +kernel
theorem dX10_show_38 : decode cX10_show 38 = .ok (.aload_n 0, 1) := by decide +kernel
theorem dX10_show_39 : decode cX10_show 39 = .ok (.getfield 20, 3) := by decide +kernel
theorem dX10_show_42 : decode cX10_show 42 = .ok (.iload_n 1, 1) := by decide +kernel
theorem dX10_show_43 : decode cX10_show 43 = .ok (.iaload, 1) := by decide +kernel
theorem dX10_show_44 : decode cX10_show 44 = .ok (.if_icmp .ge 25, 3) := by decide +kernel
theorem dX10_show_47 : decode cX10_show 47 = .ok (.iload_n 2, 1) := by decide +kernel
theorem dX10_show_48 : decode cX10_show 48 = .ok (.ifCond .le 9, 3) := by decide +kernel
theorem dX10_show_51 : decode cX10_show 51 = .ok (.aload_n 0, 1) := by decide +kernel
theorem dX10_show_52 : decode cX10_show 52 = .ok (.bipush 43, 2) := by decide +kernel
theorem dX10_show_54 : decode cX10_show 54 = .ok (.invokevirtual 207, 3) := by decide +kernel
theorem dX10_show_57 : decode cX10_show 57 = .ok (.aload_n 0, 1) := by decide +kernel
theorem dX10_show_58 : decode cX10_show 58 = .ok (.iload_n 1, 1) := by decide +kernel
theorem dX10_show_59 : decode cX10_show 59 = .ok (.iload_n 2, 1) := by decide +kernel
theorem dX10_show_60 : decode cX10_show 60 = .ok (.invokevirtual 210, 3) := by decide +kernel
theorem dX10_show_63 : decode cX10_show 63 = .ok (.iinc 2 1, 3) := by decide +kernel
theorem dX10_show_66 : decode cX10_show 66 = .ok (.goto (-29), 3) := by decide +kernel
theorem dX10_show_69 : decode cX10_show 69 = .ok (.aload_n 0, 1) := by decide +kernel
theorem dX10_show_70 : decode cX10_show 70 = .ok (.getfield 201, 3) := by decide +kernel
theorem dX10_show_73 : decode cX10_show 73 = .ok (.ireturn, 1) := by decide +kernel
theorem dX10_out_0 : decode cX10_out 0 = .ok (.aload_n 0, 1) := by decide +kernel
theorem dX10_out_1 : decode cX10_out 1 = .ok (.iconst 0, 1) := by decide +kernel
theorem dX10_out_2 : decode cX10_out 2 = .ok (.putfield 65, 3) := by decide +kernel
