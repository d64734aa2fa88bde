theorem dX10_out_5 : decode cX10_out 5 = .ok (.aload_n 0, 1) := by decide +kernel
theorem dX10_out_6 : decode cX10_out 6 = .ok (.iload_n 1, 1) := by decide +kernel
theorem dX10_out_7 : decode cX10_out 7 = .ok (.i2l, 1) := by decide +kernel
theorem dX10_out_8 : decode cX10_out 8 = .ok (.lconst 0, 1) := by decide +kernel
theorem dX10_out_9 : decode cX10_out 9 = .ok (.aload_n 0, 1) := by decide +kernel
theorem dX10_out_10 : decode cX10_out 10 = .ok (.getfield 201, 3) := by decide +kernel
theorem dX10_out_13 : decode cX10_out 13 = .ok (.i2l, 1) := by decide +kernel
theorem dX10_out_14 : decode cX10_out 14 = .ok (.lconst 1, 1) := by decide +kernel
theorem dX10_out_15 : decode cX10_out 15 = .ok (.lsub, 1) := by decide +kernel
theorem dX10_out_16 : decode cX10_out 16 = .ok (.invokevirtual 106, 3) := by decide +kernel
theorem dX10_out_19 : decode cX10_out 19 = .ok (.ifCond .eq 12, 3) := by decide +kernel
theorem dX10_out_22 : decode cX10_out 22 = .ok (.aload_n 0, 1) := by decide +kernel
theorem dX10_out_23 : decode cX10_out 23 = .ok (.getfield 46, 3) := by decide +kernel
theorem dX10_out_26 : decode cX10_out 26 = .ok (.iload_n 1, 1) := by decide +kernel
theorem dX10_out_27 : decode cX10_out 27 = .ok (.iaload, 1) := by decide +kernel
theorem dX10_out_28 : decode cX10_out 28 = .ok (.goto 4, 3) := by decide +kernel
theorem dX10_out_31 : decode cX10_out 31 = .ok (.iconst (-1), 1) := by decide +kernel
theorem dX10_out_32 : decode cX10_out 32 = .ok (.ireturn, 1) := by decide +kernel
theorem dX10_term_0 : decode cX10_term 0 = .ok (.aload_n 0, 1) := by decide +kernel
theorem dX10_term_1 : decode cX10_term 1 = .ok (.iconst 0, 1) := by decide +kernel
theorem dX10_term_2 : decode cX10_term 2 = .ok (.putfield 65, 3) := by decide +kernel
theorem dX10_term_5 : decode cX10_term 5 = .ok (.aload_n 0, 1) := by decide +kernel
theorem dX10_term_6 : decode cX10_term 6 = .ok (.iload_n 1, 1) := by decide +kernel
theorem dX10_term_7 : decode cX10_term 7 = .ok (.invokevirtual 188, 3) := by decide +kernel
theorem dX10_term_10 : decode cX10_term 10 = .ok (.ifCond .ne 5, 3) := by decide +kernel
theorem dX10_term_13 : decode cX10_term 13 = .ok (.iconst (-1), 1) := by decide +kernel
theorem dX10_term_14 : decode cX10_term 14 = .ok (.ireturn, 1) := by decide +kernel
theorem dX10_term_15 : decode cX10_term 15 = .ok (.iload_n 2, 1) := by decide +kernel
theorem dX10_term_16 : decode cX10_term 16 = .ok (.iconst (-1), 1) := by decide +kernel
theorem dX10_term_17 : decode cX10_term 17 = .ok (.if_icmp .ne 10, 3) := by decide +kernel
theorem dX10_term_20 : decode cX10_term 20 = .ok (.aload_n 0, 1) := by decide +kernel
theorem dX10_term_21 : decode cX10_term 21 = .ok (.getfield 20, 3) := by decide +kernel
theorem dX10_term_24 : decode cX10_term 24 = .ok (.iload_n 1, 1) := by decide +kernel
theorem dX10_term_25 : decode cX10_term 25 = .ok (.iaload, 1) := by decide +kernel
theorem dX10_term_26 : decode cX10_term 26 = .ok (.ireturn, 1) := by decide +kernel
theorem dX10_term_27 : decode cX10_term 27 = .ok (.aload_n 0, 1) := by decide +kernel
theorem dX10_term_28 : decode cX10_term 28 = .ok (.iload_n 2, 1) := by decide +kernel
theorem dX10_term_29 : decode cX10_term 29 = .ok (.i2l, 1) := by decide +kernel
theorem dX10_term_30 : decode cX10_term 30 = .ok (.lconst 0, 1) := by decide +kernel
theorem dX10_term_31 : decode cX10_term 31 = .ok (.aload_n 0, 1) := by decide +kernel
theorem dX10_term_32 : decode cX10_term 32 = .ok (.getfield 20, 3) := by decide +kernel
theorem dX10_term_35 : decode cX10_term 35 = .ok (.iload_n 1, 1) := by decide +kernel
theorem dX10_term_36 : decode cX10_term 36 = .ok (.iaload, 1) := by decide +kernel
theorem dX10_term_37 : decode cX10_term 37 = .ok (.i2l, 1) := by decide +kernel
theorem dX10_term_38 : decode cX10_term 38 = .ok (.lconst 1, 1) := by decide +kernel
theorem dX10_term_39 : decode cX10_term 39 = .ok (.lsub, 1) := by decide +kernel
theorem dX10_term_40 : decode cX10_term 40 = .ok (.invokevirtual 106, 3) := by decide +kernel
theorem dX10_term_43 : decode cX10_term 43 = .ok (.ifCond .ne 5, 3) := by decide +kernel
theorem dX10_term_46 : decode cX10_term 46 = .ok (.iconst (-1), 1) := by decide +kernel
theorem dX10_term_47 : decode cX10_term 47 = .ok (.ireturn, 1) := by decide +kernel
theorem dX10_term_48 : decode cX10_term 48 = .ok (.iload_n 3, 1) := by decide +kernel
theorem dX10_term_49 : decode cX10_term 49 = .ok (.tableswitch 53 0 3 #[31, 43, 43, 43], 31) := by decide +kernel
theorem dX10_term_80 : decode cX10_term 80 = .ok (.aload_n 0, 1) := by decide +kernel
theorem dX10_term_81 : decode cX10_term 81 = .ok (.getfield 23, 3) := by decide +kernel
theorem dX10_term_84 : decode cX10_term 84 = .ok (.aload_n 0, 1) := by decide +kernel
theorem dX10_term_85 : decode cX10_term 85 = .ok (.iload_n 1, 1) := by decide +kernel
theorem dX10_term_86 : decode cX10_term 86 = .ok (.iload_n 2, 1) := by decide +kernel
theorem dX10_term_87 : decode cX10_term 87 = .ok (.invokevirtual 68, 3) := by decide +kernel
theorem dX10_term_90 : decode cX10_term 90 = .ok (.iaload, 1) := by decide +kernel
theorem dX10_term_91 : decode cX10_term 91 = .ok (.ireturn, 1) := by decide +kernel
theorem dX10_term_92 : decode cX10_term 92 = .ok (.aload_n 0, 1) := by decide +kernel
theorem dX10_term_93 : decode cX10_term 93 = .ok (.iload_n 1, 1) := by decide +kernel
theorem dX10_term_94 : decode cX10_term 94 = .ok (.iload_n 2, 1) := by decide +kernel
theorem dX10_term_95 : decode cX10_term 95 = .ok (.iload_n 3, 1) := by decide +kernel
theorem dX10_term_96 : decode cX10_term 96 = .ok (.iconst 1, 1) := by decide +kernel
theorem dX10_term_97 : decode cX10_term 97 = .ok (.isub, 1) := by decide +kernel
theorem dX10_term_98 : decode cX10_term 98 = .ok (.invokevirtual 72, 3) := by decide +kernel
theorem dX10_term_101 : decode cX10_term 101 = .ok (.ireturn, 1) := by decide +kernel
theorem dX10_term_102 : decode cX10_term 102 = .ok (.iload_n 3, 1) := by decide +kernel
theorem dX10_term_103 : decode cX10_term 103 = .ok (.iconst 4, 1) := by decide +kernel
theorem dX10_term_104 : decode cX10_term 104 = .ok (.if_icmp .ne 12, 3) := by decide +kernel
theorem dX10_term_107 : decode cX10_term 107 = .ok (.aload_n 0, 1) := by decide +kernel
theorem dX10_term_108 : decode cX10_term 108 = .ok (.iload_n 1, 1) := by decide +kernel
theorem dX10_term_109 : decode cX10_term 109 = .ok (.iload_n 2, 1) := by decide +kernel
theorem dX10_term_110 : decode cX10_term 110 = .ok (.invokevirtual 79, 3) := by decide +kernel
theorem dX10_term_113 : decode cX10_term 113 = .ok (.goto 4, 3) := by decide +kernel
theorem dX10_term_116 : decode cX10_term 116 = .ok (.iconst (-1), 1) := by decide +kernel
theorem dX10_term_117 : decode cX10_term 117 = .ok (.ireturn, 1) := by decide +kernel
theorem dX10_isUnit_0 : decode cX10_isUnit 0 = .ok (.aload_n 0, 1) := by decide +kernel
theorem dX10_isUnit_1 : decode cX10_isUnit 1 = .ok (.getfield 20, 3) := by decide +kernel
theorem dX10_isUnit_4 : decode cX10_isUnit 4 = .ok (.iload_n 1, 1) := by decide +kernel
theorem dX10_isUnit_5 : decode cX10_isUnit 5 = .ok (.iaload, 1) := by decide +kernel
theorem dX10_isUnit_6 : decode cX10_isUnit 6 = .ok (.ifCond .le 15, 3) := by decide +kernel
theorem dX10_isUnit_9 : decode cX10_isUnit 9 = .ok (.aload_n 0, 1) := by decide +kernel
theorem dX10_isUnit_10 : decode cX10_isUnit 10 = .ok (.iload_n 1, 1) := by decide +kernel
theorem dX10_isUnit_11 : decode cX10_isUnit 11 = .ok (.invokevirtual 86, 3) := by decide +kernel
theorem dX10_isUnit_14 : decode cX10_isUnit 14 = .ok (.ifCond .ne 7, 3) := by decide +kernel
theorem dX10_isUnit_17 : decode cX10_isUnit 17 = .ok (.iconst 1, 1) := by decide +kernel
theorem dX10_isUnit_18 : decode cX10_isUnit 18 = .ok (.goto 4, 3) := by decide +kernel
theorem dX10_isUnit_21 : decode cX10_isUnit 21 = .ok (.iconst 0, 1) := by decide +kernel
theorem dX10_isUnit_22 : decode cX10_isUnit 22 = .ok (.ireturn, 1) := by decide +kernel
theorem dX10_shape_0 : decode cX10_shape 0 = .ok (.aload_n 0, 1) := by decide +kernel
theorem dX10_shape_1 : decode cX10_shape 1 = .ok (.iconst 0, 1) := by decide +kernel
theorem dX10_shape_2 : decode cX10_shape 2 = .ok (.putfield 65, 3) := by decide +kernel
theorem dX10_shape_5 : decode cX10_shape 5 = .ok (.aload_n 0, 1) := by decide +kernel
theorem dX10_shape_6 : decode cX10_shape 6 = .ok (.iload_n 1, 1) := by decide +kernel
theorem dX10_shape_7 : decode cX10_shape 7 = .ok (.invokevirtual 188, 3) := by decide +kernel
theorem dX10_shape_10 : decode cX10_shape 10 = .ok (.ifCond .eq 16, 3) := by decide +kernel
theorem dX10_shape_13 : decode cX10_shape 13 = .ok (.aload_n 0, 1) := by decide +kernel
theorem dX10_shape_14 : decode cX10_shape 14 = .ok (.iload_n 2, 1) := by decide +kernel
theorem dX10_shape_15 : decode cX10_shape 15 = .ok (.i2l, 1) := by decide +kernel
theorem dX10_shape_16 : decode cX10_shape 16 = .ok (.lconst 0, 1) := by decide +kernel
theorem dX10_shape_17 : decode cX10_shape 17 = .ok (.ldc2_w 131, 3) := by decide +kernel
theorem dX10_shape_20 : decode cX10_shape 20 = .ok (.invokevirtual 106, 3) := by decide +kernel
theorem dX10_shape_23 : decode cX10_shape 23 = .ok (.ifCond .ne 5, 3) := by decide +kernel
theorem dX10_shape_26 : decode cX10_shape 26 = .ok (.iconst (-1), 1) := by decide +kernel
theorem dX10_shape_27 : decode cX10_shape 27 = .ok (.ireturn, 1) := by decide +kernel
theorem dX10_shape_28 : decode cX10_shape 28 = .ok (.aload_n 0, 1) := by decide +kernel
theorem dX10_shape_29 : decode cX10_shape 29 = .ok (.getfield 20, 3) := by decide +kernel
theorem dX10_shape_32 : decode cX10_shape 32 = .ok (.iload_n 1, 1) := by decide +kernel
theorem dX10_shape_33 : decode cX10_shape 33 = .ok (.iaload, 1) := by decide +kernel
theorem dX10_shape_34 : decode cX10_shape 34 = .ok (.ifCond .le 7, 3) := by decide +kernel
theorem dX10_shape_37 : decode cX10_shape 37 = .ok (.iconst 1, 1) := by decide +kernel
theorem dX10_shape_38 : decode cX10_shape 38 = .ok (.goto 4, 3) := by decide +kernel
theorem dX10_shape_41 : decode cX10_shape 41 = .ok (.iconst 0, 1) := by decide +kernel
theorem dX10_shape_42 : decode cX10_shape 42 = .ok (.istore_n 3, 1) := by decide +kernel
theorem dX10_shape_43 : decode cX10_shape 43 = .ok (.iload_n 2, 1) := by decide +kernel
theorem dX10_shape_44 : decode cX10_shape 44 = .ok (.tableswitch 92 0 3 #[32, 46, 60, 74], 32) := by decide +kernel
theorem dX10_shape_76 : decode cX10_shape 76 = .ok (.iload_n 3, 1) := by decide +kernel
theorem dX10_shape_77 : decode cX10_shape 77 = .ok (.ifCond .eq 11, 3) := by decide +kernel
theorem dX10_shape_80 : decode cX10_shape 80 = .ok (.aload_n 0, 1) := by decide +kernel
theorem dX10_shape_81 : decode cX10_shape 81 = .ok (.iload_n 1, 1) := by decide +kernel
theorem dX10_shape_82 : decode cX10_shape 82 = .ok (.invokevirtual 86, 3) := by decide +kernel
theorem dX10_shape_85 : decode cX10_shape 85 = .ok (.goto 4, 3) := by decide +kernel
theorem dX10_shape_88 : decode cX10_shape 88 = .ok (.iconst (-1), 1) := by decide +kernel
theorem dX10_shape_89 : decode cX10_shape 89 = .ok (.ireturn, 1) := by decide +kernel
theorem dX10_shape_90 : decode cX10_shape 90 = .ok (.iload_n 3, 1) := by decide +kernel
theorem dX10_shape_91 : decode cX10_shape 91 = .ok (.ifCond .eq 11, 3) := by decide +kernel
theorem dX10_shape_94 : decode cX10_shape 94 = .ok (.aload_n 0, 1) := by decide +kernel
theorem dX10_shape_95 : decode cX10_shape 95 = .ok (.iload_n 1, 1) := by decide +kernel
theorem dX10_shape_96 : decode cX10_shape 96 = .ok (.invokevirtual 82, 3) := by decide +kernel
theorem dX10_shape_99 : decode cX10_shape 99 = .ok (.goto 4, 3) := by decide +kernel
theorem dX10_shape_102 : decode cX10_shape 102 = .ok (.iconst (-1), 1) := by decide +kernel
theorem dX10_shape_103 : decode cX10_shape 103 = .ok (.ireturn, 1) := by decide +kernel
theorem dX10_shape_104 : decode cX10_shape 104 = .ok (.iload_n 3, 1) := by decide +kernel
theorem dX10_shape_105 : decode cX10_shape 105 = .ok (.ifCond .eq 11, 3) := by decide +kernel
theorem dX10_shape_108 : decode cX10_shape 108 = .ok (.aload_n 0, 1) := by decide +kernel
theorem dX10_shape_109 : decode cX10_shape 109 = .ok (.iload_n 1, 1) := by decide +kernel
theorem dX10_shape_110 : decode cX10_shape 110 = .ok (.invokevirtual 213, 3) := by decide +kernel
theorem dX10_shape_113 : decode cX10_shape 113 = .ok (.goto 4, 3) := by decide +kernel
theorem dX10_shape_116 : decode cX10_shape 116 = .ok (.iconst (-1), 1) := by decide +kernel
theorem dX10_shape_117 : decode cX10_shape 117 = .ok (.ireturn, 1) := by decide +kernel
theorem dX10_shape_118 : decode cX10_shape 118 = .ok (.iload_n 3, 1) := by decide +kernel
theorem dX10_shape_119 : decode cX10_shape 119 = .ok (.ifCond .eq 11, 3) := by decide +kernel
theorem dX10_shape_122 : decode cX10_shape 122 = .ok (.aload_n 0, 1) := by decide +kernel
theorem dX10_shape_123 : decode cX10_shape 123 = .ok (.iload_n 1, 1) := by decide +kernel
theorem dX10_shape_124 : decode cX10_shape 124 = .ok (.invokevirtual 213, 3) := by decide +kernel
theorem dX10_shape_127 : decode cX10_shape 127 = .ok (.ifCond .ne 7, 3) := by decide +kernel
theorem dX10_shape_130 : decode cX10_shape 130 = .ok (.iconst 1, 1) := by decide +kernel
theorem dX10_shape_131 : decode cX10_shape 131 = .ok (.goto 4, 3) := by decide +kernel
theorem dX10_shape_134 : decode cX10_shape 134 = .ok (.iconst 0, 1) := by decide +kernel
theorem dX10_shape_135 : decode cX10_shape 135 = .ok (.ireturn, 1) := by decide +kernel
theorem dX10_shape_136 : decode cX10_shape 136 = .ok (.aload_n 0, 1) := by decide +kernel
theorem dX10_shape_137 : decode cX10_shape 137 = .ok (.iload_n 1, 1) := by decide +kernel
theorem dX10_shape_138 : decode cX10_shape 138 = .ok (.invokevirtual 216, 3) := by decide +kernel
theorem dX10_shape_141 : decode cX10_shape 141 = .ok (.ifCond .eq 7, 3) := by decide +kernel
theorem dX10_shape_144 : decode cX10_shape 144 = .ok (.iconst 1, 1) := by decide +kernel
theorem dX10_shape_145 : decode cX10_shape 145 = .ok (.goto 4, 3) := by decide +kernel
theorem dX10_shape_148 : decode cX10_shape 148 = .ok (.iconst 0, 1) := by decide +kernel
theorem dX10_shape_149 : decode cX10_shape 149 = .ok (.ireturn, 1) := by decide +kernel
theorem dX10_multiplies_0 : decode cX10_multiplies 0 = .ok (.iconst 0, 1) := by decide +kernel
theorem dX10_multiplies_1 : decode cX10_multiplies 1 = .ok (.istore_n 3, 1) := by decide +kernel
theorem dX10_multiplies_2 : decode cX10_multiplies 2 = .ok (.iload_n 3, 1) := by decide +kernel
theorem dX10_multiplies_3 : decode cX10_multiplies 3 = .ok (.aload_n 0, 1) := by decide +kernel
theorem dX10_multiplies_4 : decode cX10_multiplies 4 = .ok (.getfield 20, 3) := by decide +kernel
theorem dX10_multiplies_7 : decode cX10_multiplies 7 = .ok (.iload_n 1, 1) := by decide +kernel
theorem dX10_multiplies_8 : decode cX10_multiplies 8 = .ok (.iaload, 1) := by decide +kernel
theorem dX10_multiplies_9 : decode cX10_multiplies 9 = .ok (.if_icmp .ge 46, 3) := by decide +kernel
theorem dX10_multiplies_12 : decode cX10_multiplies 12 = .ok (.aload_n 0, 1) := by decide +kernel
theorem dX10_multiplies_13 : decode cX10_multiplies 13 = .ok (.iload_n 2, 1) := by decide +kernel
theorem dX10_multiplies_14 : decode cX10_multiplies 14 = .ok (.aload_n 0, 1) := by decide +kernel
theorem dX10_multiplies_15 : decode cX10_multiplies 15 = .ok (.getfield 23, 3) := by decide +kernel
theorem dX10_multiplies_18 : decode cX10_multiplies 18 = .ok (.aload_n 0, 1) := by decide +kernel
theorem dX10_multiplies_19 : decode cX10_multiplies 19 = .ok (.iload_n 1, 1) := by decide +kernel
theorem dX10_multiplies_20 : decode cX10_multiplies 20 = .ok (.iload_n 3, 1) := by decide +kernel
theorem dX10_multiplies_21 : decode cX10_multiplies 21 = .ok (.invokevirtual 68, 3) := by decide +kernel
theorem dX10_multiplies_24 : decode cX10_multiplies 24 = .ok (.iaload, 1) := by decide +kernel
theorem dX10_multiplies_25 : decode cX10_multiplies 25 = .ok (.aload_n 0, 1) := by decide +kernel
theorem dX10_multiplies_26 : decode cX10_multiplies 26 = .ok (.iload_n 1, 1) := by decide +kernel
theorem dX10_multiplies_27 : decode cX10_multiplies 27 = .ok (.iload_n 3, 1) := by decide +kernel
theorem dX10_multiplies_28 : decode cX10_multiplies 28 = .ok (.iconst 0, 1) := by decide +kernel
theorem dX10_multiplies_29 : decode cX10_multiplies 29 = .ok (.invokevirtual 72, 3) := by decide +kernel
theorem dX10_multiplies_32 : decode cX10_multiplies 32 = .ok (.aload_n 0, 1) := by decide +kernel
theorem dX10_multiplies_33 : decode cX10_multiplies 33 = .ok (.iload_n 1, 1) := by decide +kernel
theorem dX10_multiplies_34 : decode cX10_multiplies 34 = .ok (.iload_n 3, 1) := by decide +kernel
theorem dX10_multiplies_35 : decode cX10_multiplies 35 = .ok (.iconst 1, 1) := by decide +kernel
theorem dX10_multiplies_36 : decode cX10_multiplies 36 = .ok (.invokevirtual 72, 3) := by decide +kernel
theorem dX10_multiplies_39 : decode cX10_multiplies 39 = .ok (.aload_n 0, 1) := by decide +kernel
theorem dX10_multiplies_40 : decode cX10_multiplies 40 = .ok (.iload_n 1, 1) := by decide +kernel
theorem dX10_multiplies_41 : decode cX10_multiplies 41 = .ok (.iload_n 3, 1) := by decide +kernel
theorem dX10_multiplies_42 : decode cX10_multiplies 42 = .ok (.iconst 2, 1) := by decide +kernel
theorem dX10_multiplies_43 : decode cX10_multiplies 43 = .ok (.invokevirtual 72, 3) := by decide +kernel
theorem dX10_multiplies_46 : decode cX10_multiplies 46 = .ok (.invokevirtual 124, 3) := by decide +kernel
theorem dX10_multiplies_49 : decode cX10_multiplies 49 = .ok (.iinc 3 1, 3) := by decide +kernel
theorem dX10_multiplies_52 : decode cX10_multiplies 52 = .ok (.goto (-50), 3) := by decide +kernel
theorem dX10_multiplies_55 : decode cX10_multiplies 55 = .ok (.return_, 1) := by decide +kernel
theorem dX10_make_0 : decode cX10_make 0 = .ok (.aload_n 0, 1) := by decide +kernel
theorem dX10_make_1 : decode cX10_make 1 = .ok (.iconst 0, 1) := by decide +kernel
theorem dX10_make_2 : decode cX10_make 2 = .ok (.putfield 65, 3) := by decide +kernel
theorem dX10_make_5 : decode cX10_make 5 = .ok (.aload_n 0, 1) := by decide +kernel
theorem dX10_make_6 : decode cX10_make 6 = .ok (.iload_n 1, 1) := by decide +kernel
theorem dX10_make_7 : decode cX10_make 7 = .ok (.i2l, 1) := by decide +kernel
theorem dX10_make_8 : decode cX10_make 8 = .ok (.lconst 0, 1) := by decide +kernel
theorem dX10_make_9 : decode cX10_make 9 = .ok (.ldc2_w 112, 3) := by decide +kernel
theorem dX10_make_12 : decode cX10_make 12 = .ok (.invokevirtual 106, 3) := by decide +kernel
theorem dX10_make_15 : decode cX10_make 15 = .ok (.ifCond .eq 28, 3) := by decide +kernel
theorem dX10_make_18 : decode cX10_make 18 = .ok (.aload_n 0, 1) := by decide +kernel
theorem dX10_make_19 : decode cX10_make 19 = .ok (.iload_n 2, 1) := by decide +kernel
theorem dX10_make_20 : decode cX10_make 20 = .ok (.invokevirtual 188, 3) := by decide +kernel
theorem dX10_make_23 : decode cX10_make 23 = .ok (.ifCond .eq 20, 3) := by decide +kernel
theorem dX10_make_26 : decode cX10_make 26 = .ok (.aload_n 0, 1) := by decide +kernel
theorem dX10_make_27 : decode cX10_make 27 = .ok (.iload_n 3, 1) := by decide +kernel
theorem dX10_make_28 : decode cX10_make 28 = .ok (.invokevirtual 188, 3) := by decide +kernel
theorem dX10_make_31 : decode cX10_make 31 = .ok (.ifCond .eq 12, 3) := by decide +kernel
theorem dX10_make_34 : decode cX10_make 34 = .ok (.aload_n 0, 1) := by decide +kernel
theorem dX10_make_35 : decode cX10_make 35 = .ok (.iload 4, 2) := by decide +kernel
theorem dX10_make_37 : decode cX10_make 37 = .ok (.invokevirtual 188, 3) := by decide +kernel
theorem dX10_make_40 : decode cX10_make 40 = .ok (.ifCond .ne 5, 3) := by decide +kernel
theorem dX10_make_43 : decode cX10_make 43 = .ok (.iconst (-1), 1) := by decide +kernel
theorem dX10_make_44 : decode cX10_make 44 = .ok (.ireturn, 1) := by decide +kernel
theorem dX10_make_45 : decode cX10_make 45 = .ok (.aload_n 0, 1) := by decide +kernel
theorem dX10_make_46 : decode cX10_make 46 = .ok (.iconst 0, 1) := by decide +kernel
theorem dX10_make_47 : decode cX10_make 47 = .ok (.putfield 93, 3) := by decide +kernel
theorem dX10_make_50 : decode cX10_make 50 = .ok (.iload_n 1, 1) := by decide +kernel
theorem dX10_make_51 : decode cX10_make 51 = .ok (.iconst 2, 1) := by decide +kernel
theorem dX10_make_52 : decode cX10_make 52 = .ok (.if_icmp .ne 12, 3) := by decide +kernel
theorem dX10_make_55 : decode cX10_make 55 = .ok (.aload_n 0, 1) := by decide +kernel
theorem dX10_make_56 : decode cX10_make 56 = .ok (.iload_n 2, 1) := by decide +kernel
theorem dX10_make_57 : decode cX10_make 57 = .ok (.iload_n 3, 1) := by decide +kernel
theorem dX10_make_58 : decode cX10_make 58 = .ok (.invokevirtual 219, 3) := by decide +kernel
theorem dX10_make_61 : decode cX10_make 61 = .ok (.goto 34, 3) := by decide +kernel
theorem dX10_make_64 : decode cX10_make 64 = .ok (.aload_n 0, 1) := by decide +kernel
theorem dX10_make_65 : decode cX10_make 65 = .ok (.iload_n 2, 1) := by decide +kernel
theorem dX10_make_66 : decode cX10_make 66 = .ok (.iconst 1, 1) := by decide +kernel
theorem dX10_make_67 : decode cX10_make 67 = .ok (.iconst 0, 1) := by decide +kernel
theorem dX10_make_68 : decode cX10_make 68 = .ok (.iconst 0, 1) := by decide +kernel
theorem dX10_make_69 : decode cX10_make 69 = .ok (.iconst 0, 1) := by decide +kernel
theorem dX10_make_70 : decode cX10_make 70 = .ok (.invokevirtual 124, 3) := by decide +kernel
theorem dX10_make_73 : decode cX10_make 73 = .ok (.aload_n 0, 1) := by decide +kernel
theorem dX10_make_74 : decode cX10_make 74 = .ok (.iload_n 3, 1) := by decide +kernel
theorem dX10_make_75 : decode cX10_make 75 = .ok (.iload_n 1, 1) := by decide +kernel
theorem dX10_make_76 : decode cX10_make 76 = .ok (.ifCond .ne 7, 3) := by decide +kernel
theorem dX10_make_79 : decode cX10_make 79 = .ok (.iconst 1, 1) := by decide +kernel
theorem dX10_make_80 : decode cX10_make 80 = .ok (.goto 9, 3) := by decide +kernel
theorem dX10_make_83 : decode cX10_make 83 = .ok (.aload_n 0, 1) := by decide +kernel
theorem dX10_make_84 : decode cX10_make 84 = .ok (.getfield 13, 3) := by decide +kernel
theorem dX10_make_87 : decode cX10_make 87 = .ok (.iconst 1, 1) := by decide +kernel
theorem dX10_make_88 : decode cX10_make 88 = .ok (.isub, 1) := by decide +kernel
theorem dX10_make_89 : decode cX10_make 89 = .ok (.iconst 0, 1) := by decide +kernel
theorem dX10_make_90 : decode cX10_make 90 = .ok (.iconst 0, 1) := by decide +kernel
theorem dX10_make_91 : decode cX10_make 91 = .ok (.iconst 0, 1) := by decide +kernel
theorem dX10_make_92 : decode cX10_make 92 = .ok (.invokevirtual 124, 3) := by decide +kernel
theorem dX10_make_95 : decode cX10_make 95 = .ok (.aload_n 0, 1) := by decide +kernel
theorem dX10_make_96 : decode cX10_make 96 = .ok (.iload 4, 2) := by decide +kernel
theorem dX10_make_98 : decode cX10_make 98 = .ok (.invokevirtual 128, 3) := by decide +kernel
theorem dX10_make_101 : decode cX10_make 101 = .ok (.ifCond .eq 13, 3) := by decide +kernel
theorem dX10_make_104 : decode cX10_make 104 = .ok (.aload_n 0, 1) := by decide +kernel
theorem dX10_make_105 : decode cX10_make 105 = .ok (.getfield 20, 3) := by decide +kernel
theorem dX10_make_108 : decode cX10_make 108 = .ok (.iload 4, 2) := by decide +kernel
theorem dX10_make_110 : decode cX10_make 110 = .ok (.iaload, 1) := by decide +kernel
theorem dX10_make_111 : decode cX10_make 111 = .ok (.goto 4, 3) := by decide +kernel
theorem dX10_make_114 : decode cX10_make 114 = .ok (.iconst (-1), 1) := by decide +kernel
theorem dX10_make_115 : decode cX10_make 115 = .ok (.ireturn, 1) := by decide +kernel
theorem dX10_heapsPart_0 : decode cX10_heapsPart 0 = .ok (.aload_n 0, 1) := by decide +kernel
theorem dX10_heapsPart_1 : decode cX10_heapsPart 1 = .ok (.iconst 0, 1) := by decide +kernel
theorem dX10_heapsPart_2 : decode cX10_heapsPart 2 = .ok (.putfield 93, 3) := by decide +kernel
theorem dX10_heapsPart_5 : decode cX10_heapsPart 5 = .ok (.iconst 0, 1) := by decide +kernel
theorem dX10_heapsPart_6 : decode cX10_heapsPart 6 = .ok (.istore_n 3, 1) := by decide +kernel
theorem dX10_heapsPart_7 : decode cX10_heapsPart 7 = .ok (.iload_n 3, 1) := by decide +kernel
theorem dX10_heapsPart_8 : decode cX10_heapsPart 8 = .ok (.aload_n 0, 1) := by decide +kernel
theorem dX10_heapsPart_9 : decode cX10_heapsPart 9 = .ok (.getfield 20, 3) := by decide +kernel
theorem dX10_heapsPart_12 : decode cX10_heapsPart 12 = .ok (.iload_n 1, 1) := by decide +kernel
theorem dX10_heapsPart_13 : decode cX10_heapsPart 13 = .ok (.iaload, 1) := by decide +kernel
theorem dX10_heapsPart_14 : decode cX10_heapsPart 14 = .ok (.if_icmp .ge 103, 3) := by decide +kernel
theorem dX10_heapsPart_17 : decode cX10_heapsPart 17 = .ok (.aload_n 0, 1) := by decide +kernel
theorem dX10_heapsPart_18 : decode cX10_heapsPart 18 = .ok (.iload_n 1, 1) := by decide +kernel
theorem dX10_heapsPart_19 : decode cX10_heapsPart 19 = .ok (.iload_n 3, 1) := by decide +kernel
theorem dX10_heapsPart_20 : decode cX10_heapsPart 20 = .ok (.iload_n 2, 1) := by decide +kernel
theorem dX10_heapsPart_21 : decode cX10_heapsPart 21 = .ok (.invokevirtual 72, 3) := by decide +kernel
theorem dX10_heapsPart_24 : decode cX10_heapsPart 24 = .ok (.istore 4, 2) := by decide +kernel
theorem dX10_heapsPart_26 : decode cX10_heapsPart 26 = .ok (.iload 4, 2) := by decide +kernel
theorem dX10_heapsPart_28 : decode cX10_heapsPart 28 = .ok (.ifCond .le 83, 3) := by decide +kernel
theorem dX10_heapsPart_31 : decode cX10_heapsPart 31 = .ok (.aload_n 0, 1) := by decide +kernel
theorem dX10_heapsPart_32 : decode cX10_heapsPart 32 = .ok (.aload_n 0, 1) := by decide +kernel
theorem dX10_heapsPart_33 : decode cX10_heapsPart 33 = .ok (.getfield 23, 3) := by decide +kernel
theorem dX10_heapsPart_36 : decode cX10_heapsPart 36 = .ok (.aload_n 0, 1) := by decide +kernel
theorem dX10_heapsPart_37 : decode cX10_heapsPart 37 = .ok (.iload_n 1, 1) := by decide +kernel
theorem dX10_heapsPart_38 : decode cX10_heapsPart 38 = .ok (.iload_n 3, 1) := by decide +kernel
theorem dX10_heapsPart_39 : decode cX10_heapsPart 39 = .ok (.invokevirtual 68, 3) := by decide +kernel
theorem dX10_heapsPart_42 : decode cX10_heapsPart 42 = .ok (.iaload, 1) := by decide +kernel
theorem dX10_heapsPart_43 : decode cX10_heapsPart 43 = .ok (.i2l, 1) := by decide +kernel
theorem dX10_heapsPart_44 : decode cX10_heapsPart 44 = .ok (.iload 4, 2) := by decide +kernel
theorem dX10_heapsPart_46 : decode cX10_heapsPart 46 = .ok (.i2l, 1) := by decide +kernel
theorem dX10_heapsPart_47 : decode cX10_heapsPart 47 = .ok (.lmul, 1) := by decide +kernel
theorem dX10_heapsPart_48 : decode cX10_heapsPart 48 = .ok (.aload_n 0, 1) := by decide +kernel
theorem dX10_heapsPart_49 : decode cX10_heapsPart 49 = .ok (.getfield 13, 3) := by decide +kernel
theorem dX10_heapsPart_52 : decode cX10_heapsPart 52 = .ok (.i2l, 1) := by decide +kernel
theorem dX10_heapsPart_53 : decode cX10_heapsPart 53 = .ok (.lrem, 1) := by decide +kernel
theorem dX10_heapsPart_54 : decode cX10_heapsPart 54 = .ok (.l2i, 1) := by decide +kernel
theorem dX10_heapsPart_55 : decode cX10_heapsPart 55 = .ok (.aload_n 0, 1) := by decide +kernel
theorem dX10_heapsPart_56 : decode cX10_heapsPart 56 = .ok (.iload_n 1, 1) := by decide +kernel
theorem dX10_heapsPart_57 : decode cX10_heapsPart 57 = .ok (.iload_n 3, 1) := by decide +kernel
theorem dX10_heapsPart_58 : decode cX10_heapsPart 58 = .ok (.iconst 0, 1) := by decide +kernel
theorem dX10_heapsPart_59 : decode cX10_heapsPart 59 = .ok (.invokevirtual 72, 3) := by decide +kernel
theorem dX10_heapsPart_62 : decode cX10_heapsPart 62 = .ok (.iload_n 2, 1) := by decide +kernel
theorem dX10_heapsPart_63 : decode cX10_heapsPart 63 = .ok (.ifCond .ne 7, 3) := by decide +kernel
theorem dX10_heapsPart_66 : decode cX10_heapsPart 66 = .ok (.iconst 1, 1) := by decide +kernel
theorem dX10_heapsPart_67 : decode cX10_heapsPart 67 = .ok (.goto 4, 3) := by decide +kernel
theorem dX10_heapsPart_70 : decode cX10_heapsPart 70 = .ok (.iconst 0, 1) := by decide +kernel
theorem dX10_heapsPart_71 : decode cX10_heapsPart 71 = .ok (.isub, 1) := by decide +kernel
theorem dX10_heapsPart_72 : decode cX10_heapsPart 72 = .ok (.aload_n 0, 1) := by decide +kernel
theorem dX10_heapsPart_73 : decode cX10_heapsPart 73 = .ok (.iload_n 1, 1) := by decide +kernel
theorem dX10_heapsPart_74 : decode cX10_heapsPart 74 = .ok (.iload_n 3, 1) := by decide +kernel
theorem dX10_heapsPart_75 : decode cX10_heapsPart 75 = .ok (.iconst 1, 1) := by decide +kernel
theorem dX10_heapsPart_76 : decode cX10_heapsPart 76 = .ok (.invokevirtual 72, 3) := by decide +kernel
theorem dX10_heapsPart_79 : decode cX10_heapsPart 79 = .ok (.iload_n 2, 1) := by decide +kernel
theorem dX10_heapsPart_80 : decode cX10_heapsPart 80 = .ok (.iconst 1, 1) := by decide +kernel
theorem dX10_heapsPart_81 : decode cX10_heapsPart 81 = .ok (.if_icmp .ne 7, 3) := by decide +kernel
theorem dX10_heapsPart_84 : decode cX10_heapsPart 84 = .ok (.iconst 1, 1) := by decide +kernel
theorem dX10_heapsPart_85 : decode cX10_heapsPart 85 = .ok (.goto 4, 3) := by decide +kernel
theorem dX10_heapsPart_88 : decode cX10_heapsPart 88 = .ok (.iconst 0, 1) := by decide +kernel
theorem dX10_heapsPart_89 : decode cX10_heapsPart 89 = .ok (.isub, 1) := by decide +kernel
theorem dX10_heapsPart_90 : decode cX10_heapsPart 90 = .ok (.aload_n 0, 1) := by decide +kernel
theorem dX10_heapsPart_91 : decode cX10_heapsPart 91 = .ok (.iload_n 1, 1) := by decide +kernel
theorem dX10_heapsPart_92 : decode cX10_heapsPart 92 = .ok (.iload_n 3, 1) := by decide +kernel
theorem dX10_heapsPart_93 : decode cX10_heapsPart 93 = .ok (.iconst 2, 1) := by decide +kernel
theorem dX10_heapsPart_94 : decode cX10_heapsPart 94 = .ok (.invokevirtual 72, 3) := by decide +kernel
theorem dX10_heapsPart_97 : decode cX10_heapsPart 97 = .ok (.iload_n 2, 1) := by decide +kernel
theorem dX10_heapsPart_98 : decode cX10_heapsPart 98 = .ok (.iconst 2, 1) := by decide +kernel
theorem dX10_heapsPart_99 : decode cX10_heapsPart 99 = .ok (.if_icmp .ne 7, 3) := by decide +kernel
theorem dX10_heapsPart_102 : decode cX10_heapsPart 102 = .ok (.iconst 1, 1) := by decide +kernel
theorem dX10_heapsPart_103 : decode cX10_heapsPart 103 = .ok (.goto 4, 3) := by decide +kernel
theorem dX10_heapsPart_106 : decode cX10_heapsPart 106 = .ok (.iconst 0, 1) := by decide +kernel
theorem dX10_heapsPart_107 : decode cX10_heapsPart 107 = .ok (.isub, 1) := by decide +kernel
theorem dX10_heapsPart_108 : decode cX10_heapsPart 108 = .ok (.invokevirtual 100, 3) := by decide +kernel
theorem dX10_heapsPart_111 : decode cX10_heapsPart 111 = .ok (.iinc 3 1, 3) := by decide +kernel
theorem dX10_heapsPart_114 : decode cX10_heapsPart 114 = .ok (.goto (-107), 3) := by decide +kernel
theorem dX10_heapsPart_117 : decode cX10_heapsPart 117 = .ok (.return_, 1) := by decide +kernel
theorem dX10_heapsLow_0 : decode cX10_heapsLow 0 = .ok (.aload_n 0, 1) := by decide +kernel
theorem dX10_heapsLow_1 : decode cX10_heapsLow 1 = .ok (.iconst 0, 1) := by decide +kernel
theorem dX10_heapsLow_2 : decode cX10_heapsLow 2 = .ok (.putfield 93, 3) := by decide +kernel
theorem dX10_heapsLow_5 : decode cX10_heapsLow 5 = .ok (.iconst 0, 1) := by decide +kernel
theorem dX10_heapsLow_6 : decode cX10_heapsLow 6 = .ok (.istore_n 2, 1) := by decide +kernel
theorem dX10_heapsLow_7 : decode cX10_heapsLow 7 = .ok (.iload_n 2, 1) := by decide +kernel
theorem dX10_heapsLow_8 : decode cX10_heapsLow 8 = .ok (.aload_n 0, 1) := by decide +kernel
theorem dX10_heapsLow_9 : decode cX10_heapsLow 9 = .ok (.getfield 20, 3) := by decide +kernel
theorem dX10_heapsLow_12 : decode cX10_heapsLow 12 = .ok (.iload_n 1, 1) := by decide +kernel
theorem dX10_heapsLow_13 : decode cX10_heapsLow 13 = .ok (.iaload, 1) := by decide +kernel
theorem dX10_heapsLow_14 : decode cX10_heapsLow 14 = .ok (.if_icmp .ge 59, 3) := by decide +kernel
theorem dX10_heapsLow_17 : decode cX10_heapsLow 17 = .ok (.aload_n 0, 1) := by decide +kernel
theorem dX10_heapsLow_18 : decode cX10_heapsLow 18 = .ok (.iload_n 1, 1) := by decide +kernel
theorem dX10_heapsLow_19 : decode cX10_heapsLow 19 = .ok (.iload_n 2, 1) := by decide +kernel
theorem dX10_heapsLow_20 : decode cX10_heapsLow 20 = .ok (.invokevirtual 79, 3) := by decide +kernel
theorem dX10_heapsLow_23 : decode cX10_heapsLow 23 = .ok (.aload_n 0, 1) := by decide +kernel
theorem dX10_heapsLow_24 : decode cX10_heapsLow 24 = .ok (.iload_n 1, 1) := by decide +kernel
theorem dX10_heapsLow_25 : decode cX10_heapsLow 25 = .ok (.invokevirtual 86, 3) := by decide +kernel
theorem dX10_heapsLow_28 : decode cX10_heapsLow 28 = .ok (.if_icmp .ne 39, 3) := by decide +kernel
theorem dX10_heapsLow_31 : decode cX10_heapsLow 31 = .ok (.aload_n 0, 1) := by decide +kernel
theorem dX10_heapsLow_32 : decode cX10_heapsLow 32 = .ok (.aload_n 0, 1) := by decide +kernel
theorem dX10_heapsLow_33 : decode cX10_heapsLow 33 = .ok (.getfield 23, 3) := by decide +kernel
theorem dX10_heapsLow_36 : decode cX10_heapsLow 36 = .ok (.aload_n 0, 1) := by decide +kernel
theorem dX10_heapsLow_37 : decode cX10_heapsLow 37 = .ok (.iload_n 1, 1) := by decide +kernel
theorem dX10_heapsLow_38 : decode cX10_heapsLow 38 = .ok (.iload_n 2, 1) := by decide +kernel
theorem dX10_heapsLow_39 : decode cX10_heapsLow 39 = .ok (.invokevirtual 68, 3) := by decide +kernel
theorem dX10_heapsLow_42 : decode cX10_heapsLow 42 = .ok (.iaload, 1) := by decide +kernel
theorem dX10_heapsLow_43 : decode cX10_heapsLow 43 = .ok (.aload_n 0, 1) := by decide +kernel
theorem dX10_heapsLow_44 : decode cX10_heapsLow 44 = .ok (.iload_n 1, 1) := by decide +kernel
theorem dX10_heapsLow_45 : decode cX10_heapsLow 45 = .ok (.iload_n 2, 1) := by decide +kernel
theorem dX10_heapsLow_46 : decode cX10_heapsLow 46 = .ok (.iconst 0, 1) := by decide +kernel
theorem dX10_heapsLow_47 : decode cX10_heapsLow 47 = .ok (.invokevirtual 72, 3) := by decide +kernel
theorem dX10_heapsLow_50 : decode cX10_heapsLow 50 = .ok (.aload_n 0, 1) := by decide +kernel
theorem dX10_heapsLow_51 : decode cX10_heapsLow 51 = .ok (.iload_n 1, 1) := by decide +kernel
theorem dX10_heapsLow_52 : decode cX10_heapsLow 52 = .ok (.iload_n 2, 1) := by decide +kernel
theorem dX10_heapsLow_53 : decode cX10_heapsLow 53 = .ok (.iconst 1, 1) := by decide +kernel
theorem dX10_heapsLow_54 : decode cX10_heapsLow 54 = .ok (.invokevirtual 72, 3) := by decide +kernel
theorem dX10_heapsLow_57 : decode cX10_heapsLow 57 = .ok (.aload_n 0, 1) := by decide +kernel
theorem dX10_heapsLow_58 : decode cX10_heapsLow 58 = .ok (.iload_n 1, 1) := by decide +kernel
theorem dX10_heapsLow_59 : decode cX10_heapsLow 59 = .ok (.iload_n 2, 1) := by decide +kernel
theorem dX10_heapsLow_60 : decode cX10_heapsLow 60 = .ok (.iconst 2, 1) := by decide +kernel
theorem dX10_heapsLow_61 : decode cX10_heapsLow 61 = .ok (.invokevirtual 72, 3) := by decide +kernel
theorem dX10_heapsLow_64 : decode cX10_heapsLow 64 = .ok (.invokevirtual 100, 3) := by decide +kernel
theorem dX10_heapsLow_67 : decode cX10_heapsLow 67 = .ok (.iinc 2 1, 3) := by decide +kernel
theorem dX10_heapsLow_70 : decode cX10_heapsLow 70 = .ok (.goto (-63), 3) := by decide +kernel
theorem dX10_heapsLow_73 : decode cX10_heapsLow 73 = .ok (.return_, 1) := by decide +kernel
theorem dX10_part_0 : decode cX10_part 0 = .ok (.aload_n 0, 1) := by decide +kernel
theorem dX10_part_1 : decode cX10_part 1 = .ok (.iconst 0, 1) := by decide +kernel
theorem dX10_part_2 : decode cX10_part 2 = .ok (.putfield 65, 3) := by decide +kernel
theorem dX10_part_5 : decode cX10_part 5 = .ok (.aload_n 0, 1) := by decide +kernel
theorem dX10_part_6 : decode cX10_part 6 = .ok (.iload_n 1, 1) := by decide +kernel
theorem dX10_part_7 : decode cX10_part 7 = .ok (.invokevirtual 188, 3) := by decide +kernel
theorem dX10_part_10 : decode cX10_part 10 = .ok (.ifCond .eq 33, 3) := by decide +kernel
theorem dX10_part_13 : decode cX10_part 13 = .ok (.aload_n 0, 1) := by decide +kernel
theorem dX10_part_14 : decode cX10_part 14 = .ok (.iload_n 3, 1) := by decide +kernel
theorem dX10_part_15 : decode cX10_part 15 = .ok (.invokevirtual 188, 3) := by decide +kernel
theorem dX10_part_18 : decode cX10_part 18 = .ok (.ifCond .eq 25, 3) := by decide +kernel
theorem dX10_part_21 : decode cX10_part 21 = .ok (.iload_n 2, 1) := by decide +kernel
theorem dX10_part_22 : decode cX10_part 22 = .ok (.iconst 3, 1) := by decide +kernel
theorem dX10_part_23 : decode cX10_part 23 = .ok (.if_icmp .eq 22, 3) := by decide +kernel
theorem dX10_part_26 : decode cX10_part 26 = .ok (.aload_n 0, 1) := by decide +kernel
theorem dX10_part_27 : decode cX10_part 27 = .ok (.iload_n 2, 1) := by decide +kernel
theorem dX10_part_28 : decode cX10_part 28 = .ok (.i2l, 1) := by decide +kernel
theorem dX10_part_29 : decode cX10_part 29 = .ok (.lconst 0, 1) := by decide +kernel
theorem dX10_part_30 : decode cX10_part 30 = .ok (.aload_n 0, 1) := by decide +kernel
theorem dX10_part_31 : decode cX10_part 31 = .ok (.getfield 7, 3) := by decide +kernel
theorem dX10_part_34 : decode cX10_part 34 = .ok (.i2l, 1) := by decide +kernel
theorem dX10_part_35 : decode cX10_part 35 = .ok (.lconst 1, 1) := by decide +kernel
theorem dX10_part_36 : decode cX10_part 36 = .ok (.lsub, 1) := by decide +kernel
theorem dX10_part_37 : decode cX10_part 37 = .ok (.invokevirtual 106, 3) := by decide +kernel
theorem dX10_part_40 : decode cX10_part 40 = .ok (.ifCond .ne 5, 3) := by decide +kernel
theorem dX10_part_43 : decode cX10_part 43 = .ok (.iconst (-1), 1) := by decide +kernel
theorem dX10_part_44 : decode cX10_part 44 = .ok (.ireturn, 1) := by decide +kernel
theorem dX10_part_45 : decode cX10_part 45 = .ok (.iload_n 2, 1) := by decide +kernel
theorem dX10_part_46 : decode cX10_part 46 = .ok (.iconst 3, 1) := by decide +kernel
theorem dX10_part_47 : decode cX10_part 47 = .ok (.if_icmp .ne 11, 3) := by decide +kernel
theorem dX10_part_50 : decode cX10_part 50 = .ok (.aload_n 0, 1) := by decide +kernel
theorem dX10_part_51 : decode cX10_part 51 = .ok (.iload_n 1, 1) := by decide +kernel
theorem dX10_part_52 : decode cX10_part 52 = .ok (.invokevirtual 222, 3) := by decide +kernel
theorem dX10_part_55 : decode cX10_part 55 = .ok (.goto 9, 3) := by decide +kernel
theorem dX10_part_58 : decode cX10_part 58 = .ok (.aload_n 0, 1) := by decide +kernel
theorem dX10_part_59 : decode cX10_part 59 = .ok (.iload_n 1, 1) := by decide +kernel
theorem dX10_part_60 : decode cX10_part 60 = .ok (.iload_n 2, 1) := by decide +kernel
theorem dX10_part_61 : decode cX10_part 61 = .ok (.invokevirtual 225, 3) := by decide +kernel
theorem dX10_part_64 : decode cX10_part 64 = .ok (.aload_n 0, 1) := by decide +kernel
theorem dX10_part_65 : decode cX10_part 65 = .ok (.iload_n 3, 1) := by decide +kernel
theorem dX10_part_66 : decode cX10_part 66 = .ok (.invokevirtual 128, 3) := by decide +kernel
theorem dX10_part_69 : decode cX10_part 69 = .ok (.ifCond .eq 12, 3) := by decide +kernel
theorem dX10_part_72 : decode cX10_part 72 = .ok (.aload_n 0, 1) := by decide +kernel
theorem dX10_part_73 : decode cX10_part 73 = .ok (.getfield 20, 3) := by decide +kernel
theorem dX10_part_76 : decode cX10_part 76 = .ok (.iload_n 3, 1) := by decide +kernel
theorem dX10_part_77 : decode cX10_part 77 = .ok (.iaload, 1) := by decide +kernel
theorem dX10_part_78 : decode cX10_part 78 = .ok (.goto 4, 3) := by decide +kernel
theorem dX10_part_81 : decode cX10_part 81 = .ok (.iconst (-1), 1) := by decide +kernel
theorem dX10_part_82 : decode cX10_part 82 = .ok (.ireturn, 1) := by decide +kernel
theorem dX10_rowOf_0 : decode cX10_rowOf 0 = .ok (.bipush 8, 2) := by decide +kernel
theorem dX10_rowOf_2 : decode cX10_rowOf 2 = .ok (.bipush 10, 2) := by decide +kernel
theorem dX10_rowOf_4 : decode cX10_rowOf 4 = .ok (.iload_n 1, 1) := by decide +kernel
theorem dX10_rowOf_5 : decode cX10_rowOf 5 = .ok (.imul, 1) := by decide +kernel
theorem dX10_rowOf_6 : decode cX10_rowOf 6 = .ok (.iadd, 1) := by decide +kernel
theorem dX10_rowOf_7 : decode cX10_rowOf 7 = .ok (.iload_n 2, 1) := by decide +kernel
theorem dX10_rowOf_8 : decode cX10_rowOf 8 = .ok (.iadd, 1) := by decide +kernel
theorem dX10_rowOf_9 : decode cX10_rowOf 9 = .ok (.ireturn, 1) := by decide +kernel
theorem dX10_divides_0 : decode cX10_divides 0 = .ok (.iconst 0, 1) := by decide +kernel
theorem dX10_divides_1 : decode cX10_divides 1 = .ok (.istore_n 3, 1) := by decide +kernel
theorem dX10_divides_2 : decode cX10_divides 2 = .ok (.iload_n 3, 1) := by decide +kernel
theorem dX10_divides_3 : decode cX10_divides 3 = .ok (.iconst 3, 1) := by decide +kernel
theorem dX10_divides_4 : decode cX10_divides 4 = .ok (.if_icmp .ge 28, 3) := by decide +kernel
theorem dX10_divides_7 : decode cX10_divides 7 = .ok (.aload_n 0, 1) := by decide +kernel
theorem dX10_divides_8 : decode cX10_divides 8 = .ok (.iload_n 1, 1) := by decide +kernel
theorem dX10_divides_9 : decode cX10_divides 9 = .ok (.iconst 0, 1) := by decide +kernel
theorem dX10_divides_10 : decode cX10_divides 10 = .ok (.iload_n 3, 1) := by decide +kernel
theorem dX10_divides_11 : decode cX10_divides 11 = .ok (.invokevirtual 72, 3) := by decide +kernel
theorem dX10_divides_14 : decode cX10_divides 14 = .ok (.aload_n 0, 1) := by decide +kernel
theorem dX10_divides_15 : decode cX10_divides 15 = .ok (.iload_n 2, 1) := by decide +kernel
theorem dX10_divides_16 : decode cX10_divides 16 = .ok (.iconst 0, 1) := by decide +kernel
theorem dX10_divides_17 : decode cX10_divides 17 = .ok (.iload_n 3, 1) := by decide +kernel
theorem dX10_divides_18 : decode cX10_divides 18 = .ok (.invokevirtual 72, 3) := by decide +kernel
theorem dX10_divides_21 : decode cX10_divides 21 = .ok (.if_icmp .le 5, 3) := by decide +kernel
theorem dX10_divides_24 : decode cX10_divides 24 = .ok (.iconst 0, 1) := by decide +kernel
theorem dX10_divides_25 : decode cX10_divides 25 = .ok (.ireturn, 1) := by decide +kernel
theorem dX10_divides_26 : decode cX10_divides 26 = .ok (.iinc 3 1, 3) := by decide +kernel
theorem dX10_divides_29 : decode cX10_divides 29 = .ok (.goto (-27), 3) := by decide +kernel
theorem dX10_divides_32 : decode cX10_divides 32 = .ok (.iconst 1, 1) := by decide +kernel
theorem dX10_divides_33 : decode cX10_divides 33 = .ok (.ireturn, 1) := by decide +kernel
theorem dX10_dividing_0 : decode cX10_dividing 0 = .ok (.iconst (-1), 1) := by decide +kernel
theorem dX10_dividing_1 : decode cX10_dividing 1 = .ok (.istore_n 2, 1) := by decide +kernel
theorem dX10_dividing_2 : decode cX10_dividing 2 = .ok (.iconst 0, 1) := by decide +kernel
theorem dX10_dividing_3 : decode cX10_dividing 3 = .ok (.istore_n 3, 1) := by decide +kernel
theorem dX10_dividing_4 : decode cX10_dividing 4 = .ok (.iload_n 3, 1) := by decide +kernel
theorem dX10_dividing_5 : decode cX10_dividing 5 = .ok (.aload_n 0, 1) := by decide +kernel
theorem dX10_dividing_6 : decode cX10_dividing 6 = .ok (.getfield 228, 3) := by decide +kernel
theorem dX10_dividing_9 : decode cX10_dividing 9 = .ok (.if_icmp .ge 53, 3) := by decide +kernel
theorem dX10_dividing_12 : decode cX10_dividing 12 = .ok (.aload_n 0, 1) := by decide +kernel
theorem dX10_dividing_13 : decode cX10_dividing 13 = .ok (.iload_n 3, 1) := by decide +kernel
theorem dX10_dividing_14 : decode cX10_dividing 14 = .ok (.iconst 0, 1) := by decide +kernel
theorem dX10_dividing_15 : decode cX10_dividing 15 = .ok (.invokevirtual 231, 3) := by decide +kernel
theorem dX10_dividing_18 : decode cX10_dividing 18 = .ok (.istore 4, 2) := by decide +kernel
theorem dX10_dividing_20 : decode cX10_dividing 20 = .ok (.aload_n 0, 1) := by decide +kernel
theorem dX10_dividing_21 : decode cX10_dividing 21 = .ok (.iload 4, 2) := by decide +kernel
theorem dX10_dividing_23 : decode cX10_dividing 23 = .ok (.iload_n 1, 1) := by decide +kernel
theorem dX10_dividing_24 : decode cX10_dividing 24 = .ok (.invokevirtual 234, 3) := by decide +kernel
theorem dX10_dividing_27 : decode cX10_dividing 27 = .ok (.ifCond .eq 29, 3) := by decide +kernel
theorem dX10_dividing_30 : decode cX10_dividing 30 = .ok (.iload_n 2, 1) := by decide +kernel
theorem dX10_dividing_31 : decode cX10_dividing 31 = .ok (.iconst (-1), 1) := by decide +kernel
theorem dX10_dividing_32 : decode cX10_dividing 32 = .ok (.if_icmp .eq 22, 3) := by decide +kernel
theorem dX10_dividing_35 : decode cX10_dividing 35 = .ok (.aload_n 0, 1) := by decide +kernel
theorem dX10_dividing_36 : decode cX10_dividing 36 = .ok (.iload 4, 2) := by decide +kernel
theorem dX10_dividing_38 : decode cX10_dividing 38 = .ok (.invokevirtual 213, 3) := by decide +kernel
theorem dX10_dividing_41 : decode cX10_dividing 41 = .ok (.aload_n 0, 1) := by decide +kernel
theorem dX10_dividing_42 : decode cX10_dividing 42 = .ok (.aload_n 0, 1) := by decide +kernel
theorem dX10_dividing_43 : decode cX10_dividing 43 = .ok (.iload_n 2, 1) := by decide +kernel
theorem dX10_dividing_44 : decode cX10_dividing 44 = .ok (.iconst 0, 1) := by decide +kernel
theorem dX10_dividing_45 : decode cX10_dividing 45 = .ok (.invokevirtual 231, 3) := by decide +kernel
theorem dX10_dividing_48 : decode cX10_dividing 48 = .ok (.invokevirtual 213, 3) := by decide +kernel
theorem dX10_dividing_51 : decode cX10_dividing 51 = .ok (.if_icmp .ge 5, 3) := by decide +kernel
theorem dX10_dividing_54 : decode cX10_dividing 54 = .ok (.iload_n 3, 1) := by decide +kernel
theorem dX10_dividing_55 : decode cX10_dividing 55 = .ok (.istore_n 2, 1) := by decide +kernel
theorem dX10_dividing_56 : decode cX10_dividing 56 = .ok (.iinc 3 1, 3) := by decide +kernel
theorem dX10_dividing_59 : decode cX10_dividing 59 = .ok (.goto (-55), 3) := by decide +kernel
theorem dX10_dividing_62 : decode cX10_dividing 62 = .ok (.iload_n 2, 1) := by decide +kernel
theorem dX10_dividing_63 : decode cX10_dividing 63 = .ok (.ireturn, 1) := by decide +kernel
theorem dX10_lessens_0 : decode cX10_lessens 0 = .ok (.aload_n 0, 1) := by decide +kernel
theorem dX10_lessens_1 : decode cX10_lessens 1 = .ok (.iconst 0, 1) := by decide +kernel
theorem dX10_lessens_2 : decode cX10_lessens 2 = .ok (.putfield 93, 3) := by decide +kernel
theorem dX10_lessens_5 : decode cX10_lessens 5 = .ok (.aload_n 0, 1) := by decide +kernel
theorem dX10_lessens_6 : decode cX10_lessens 6 = .ok (.iload_n 1, 1) := by decide +kernel
theorem dX10_lessens_7 : decode cX10_lessens 7 = .ok (.iconst 1, 1) := by decide +kernel
theorem dX10_lessens_8 : decode cX10_lessens 8 = .ok (.iconst 0, 1) := by decide +kernel
theorem dX10_lessens_9 : decode cX10_lessens 9 = .ok (.iconst 0, 1) := by decide +kernel
theorem dX10_lessens_10 : decode cX10_lessens 10 = .ok (.iconst 0, 1) := by decide +kernel
theorem dX10_lessens_11 : decode cX10_lessens 11 = .ok (.invokevirtual 124, 3) := by decide +kernel
theorem dX10_lessens_14 : decode cX10_lessens 14 = .ok (.aload_n 0, 1) := by decide +kernel
theorem dX10_lessens_15 : decode cX10_lessens 15 = .ok (.iload_n 2, 1) := by decide +kernel
theorem dX10_lessens_16 : decode cX10_lessens 16 = .ok (.aload_n 0, 1) := by decide +kernel
theorem dX10_lessens_17 : decode cX10_lessens 17 = .ok (.getfield 13, 3) := by decide +kernel
theorem dX10_lessens_20 : decode cX10_lessens 20 = .ok (.iload_n 3, 1) := by decide +kernel
theorem dX10_lessens_21 : decode cX10_lessens 21 = .ok (.isub, 1) := by decide +kernel
theorem dX10_lessens_22 : decode cX10_lessens 22 = .ok (.aload_n 0, 1) := by decide +kernel
theorem dX10_lessens_23 : decode cX10_lessens 23 = .ok (.iload 4, 2) := by decide +kernel
theorem dX10_lessens_25 : decode cX10_lessens 25 = .ok (.iconst 0, 1) := by decide +kernel
theorem dX10_lessens_26 : decode cX10_lessens 26 = .ok (.iconst 0, 1) := by decide +kernel
theorem dX10_lessens_27 : decode cX10_lessens 27 = .ok (.invokevirtual 72, 3) := by decide +kernel
theorem dX10_lessens_30 : decode cX10_lessens 30 = .ok (.aload_n 0, 1) := by decide +kernel
theorem dX10_lessens_31 : decode cX10_lessens 31 = .ok (.iload 5, 2) := by decide +kernel
theorem dX10_lessens_33 : decode cX10_lessens 33 = .ok (.iconst 0, 1) := by decide +kernel
theorem dX10_lessens_34 : decode cX10_lessens 34 = .ok (.iconst 0, 1) := by decide +kernel
theorem dX10_lessens_35 : decode cX10_lessens 35 = .ok (.invokevirtual 72, 3) := by decide +kernel
theorem dX10_lessens_38 : decode cX10_lessens 38 = .ok (.isub, 1) := by decide +kernel
theorem dX10_lessens_39 : decode cX10_lessens 39 = .ok (.aload_n 0, 1) := by decide +kernel
theorem dX10_lessens_40 : decode cX10_lessens 40 = .ok (.iload 4, 2) := by decide +kernel
theorem dX10_lessens_42 : decode cX10_lessens 42 = .ok (.iconst 0, 1) := by decide +kernel
theorem dX10_lessens_43 : decode cX10_lessens 43 = .ok (.iconst 1, 1) := by decide +kernel
theorem dX10_lessens_44 : decode cX10_lessens 44 = .ok (.invokevirtual 72, 3) := by decide +kernel
theorem dX10_lessens_47 : decode cX10_lessens 47 = .ok (.aload_n 0, 1) := by decide +kernel
theorem dX10_lessens_48 : decode cX10_lessens 48 = .ok (.iload 5, 2) := by decide +kernel
theorem dX10_lessens_50 : decode cX10_lessens 50 = .ok (.iconst 0, 1) := by decide +kernel
theorem dX10_lessens_51 : decode cX10_lessens 51 = .ok (.iconst 1, 1) := by decide +kernel
theorem dX10_lessens_52 : decode cX10_lessens 52 = .ok (.invokevirtual 72, 3) := by decide +kernel
theorem dX10_lessens_55 : decode cX10_lessens 55 = .ok (.isub, 1) := by decide +kernel
theorem dX10_lessens_56 : decode cX10_lessens 56 = .ok (.aload_n 0, 1) := by decide +kernel
theorem dX10_lessens_57 : decode cX10_lessens 57 = .ok (.iload 4, 2) := by decide +kernel
theorem dX10_lessens_59 : decode cX10_lessens 59 = .ok (.iconst 0, 1) := by decide +kernel
theorem dX10_lessens_60 : decode cX10_lessens 60 = .ok (.iconst 2, 1) := by decide +kernel
theorem dX10_lessens_61 : decode cX10_lessens 61 = .ok (.invokevirtual 72, 3) := by decide +kernel
theorem dX10_lessens_64 : decode cX10_lessens 64 = .ok (.aload_n 0, 1) := by decide +kernel
theorem dX10_lessens_65 : decode cX10_lessens 65 = .ok (.iload 5, 2) := by decide +kernel
theorem dX10_lessens_67 : decode cX10_lessens 67 = .ok (.iconst 0, 1) := by decide +kernel
theorem dX10_lessens_68 : decode cX10_lessens 68 = .ok (.iconst 2, 1) := by decide +kernel
theorem dX10_lessens_69 : decode cX10_lessens 69 = .ok (.invokevirtual 72, 3) := by decide +kernel
theorem dX10_lessens_72 : decode cX10_lessens 72 = .ok (.isub, 1) := by decide +kernel
theorem dX10_lessens_73 : decode cX10_lessens 73 = .ok (.invokevirtual 124, 3) := by decide +kernel
theorem dX10_lessens_76 : decode cX10_lessens 76 = .ok (.aload_n 0, 1) := by decide +kernel
theorem dX10_lessens_77 : decode cX10_lessens 77 = .ok (.sipush 290, 3) := by decide +kernel
theorem dX10_lessens_80 : decode cX10_lessens 80 = .ok (.invokevirtual 128, 3) := by decide +kernel
theorem dX10_lessens_83 : decode cX10_lessens 83 = .ok (.ireturn, 1) := by decide +kernel
theorem dX10_steps_0 : decode cX10_steps 0 = .ok (.aload_n 0, 1) := by decide +kernel
theorem dX10_steps_1 : decode cX10_steps 1 = .ok (.bipush 21, 2) := by decide +kernel
theorem dX10_steps_3 : decode cX10_steps 3 = .ok (.iconst 0, 1) := by decide +kernel
theorem dX10_steps_4 : decode cX10_steps 4 = .ok (.invokevirtual 231, 3) := by decide +kernel
theorem dX10_steps_7 : decode cX10_steps 7 = .ok (.istore_n 2, 1) := by decide +kernel
theorem dX10_steps_8 : decode cX10_steps 8 = .ok (.aload_n 0, 1) := by decide +kernel
theorem dX10_steps_9 : decode cX10_steps 9 = .ok (.iload_n 1, 1) := by decide +kernel
theorem dX10_steps_10 : decode cX10_steps 10 = .ok (.iconst 0, 1) := by decide +kernel
theorem dX10_steps_11 : decode cX10_steps 11 = .ok (.invokevirtual 231, 3) := by decide +kernel
theorem dX10_steps_14 : decode cX10_steps 14 = .ok (.istore_n 3, 1) := by decide +kernel
theorem dX10_steps_15 : decode cX10_steps 15 = .ok (.aload_n 0, 1) := by decide +kernel
theorem dX10_steps_16 : decode cX10_steps 16 = .ok (.getfield 238, 3) := by decide +kernel
theorem dX10_steps_19 : decode cX10_steps 19 = .ok (.bipush 40, 2) := by decide +kernel
theorem dX10_steps_21 : decode cX10_steps 21 = .ok (.if_icmp .ne 5, 3) := by decide +kernel
theorem dX10_steps_24 : decode cX10_steps 24 = .ok (.iconst 0, 1) := by decide +kernel
theorem dX10_steps_25 : decode cX10_steps 25 = .ok (.ireturn, 1) := by decide +kernel
theorem dX10_steps_26 : decode cX10_steps 26 = .ok (.aload_n 0, 1) := by decide +kernel
theorem dX10_steps_27 : decode cX10_steps 27 = .ok (.iload_n 3, 1) := by decide +kernel
theorem dX10_steps_28 : decode cX10_steps 28 = .ok (.invokevirtual 213, 3) := by decide +kernel
theorem dX10_steps_31 : decode cX10_steps 31 = .ok (.aload_n 0, 1) := by decide +kernel
theorem dX10_steps_32 : decode cX10_steps 32 = .ok (.iload_n 2, 1) := by decide +kernel
theorem dX10_steps_33 : decode cX10_steps 33 = .ok (.invokevirtual 213, 3) := by decide +kernel
theorem dX10_steps_36 : decode cX10_steps 36 = .ok (.if_icmp .le 7, 3) := by decide +kernel
theorem dX10_steps_39 : decode cX10_steps 39 = .ok (.iconst 1, 1) := by decide +kernel
theorem dX10_steps_40 : decode cX10_steps 40 = .ok (.goto 4, 3) := by decide +kernel
theorem dX10_steps_43 : decode cX10_steps 43 = .ok (.iconst 0, 1) := by decide +kernel
theorem dX10_steps_44 : decode cX10_steps 44 = .ok (.istore 4, 2) := by decide +kernel
theorem dX10_steps_46 : decode cX10_steps 46 = .ok (.iload 4, 2) := by decide +kernel
theorem dX10_steps_48 : decode cX10_steps 48 = .ok (.ifCond .eq 14, 3) := by decide +kernel
theorem dX10_steps_51 : decode cX10_steps 51 = .ok (.aload_n 0, 1) := by decide +kernel
theorem dX10_steps_52 : decode cX10_steps 52 = .ok (.getfield 228, 3) := by decide +kernel
theorem dX10_steps_55 : decode cX10_steps 55 = .ok (.bipush 20, 2) := by decide +kernel
theorem dX10_steps_57 : decode cX10_steps 57 = .ok (.if_icmp .ne 5, 3) := by decide +kernel
theorem dX10_steps_60 : decode cX10_steps 60 = .ok (.iconst 0, 1) := by decide +kernel
theorem dX10_steps_61 : decode cX10_steps 61 = .ok (.ireturn, 1) := by decide +kernel
theorem dX10_steps_62 : decode cX10_steps 62 = .ok (.aload_n 0, 1) := by decide +kernel
theorem dX10_steps_63 : decode cX10_steps 63 = .ok (.getfield 49, 3) := by decide +kernel
theorem dX10_steps_66 : decode cX10_steps 66 = .ok (.iconst 5, 1) := by decide +kernel
theorem dX10_steps_67 : decode cX10_steps 67 = .ok (.aload_n 0, 1) := by decide +kernel
theorem dX10_steps_68 : decode cX10_steps 68 = .ok (.getfield 238, 3) := by decide +kernel
theorem dX10_steps_71 : decode cX10_steps 71 = .ok (.imul, 1) := by decide +kernel
theorem dX10_steps_72 : decode cX10_steps 72 = .ok (.iload_n 1, 1) := by decide +kernel
theorem dX10_steps_73 : decode cX10_steps 73 = .ok (.iastore, 1) := by decide +kernel
theorem dX10_steps_74 : decode cX10_steps 74 = .ok (.aload_n 0, 1) := by decide +kernel
theorem dX10_steps_75 : decode cX10_steps 75 = .ok (.getfield 49, 3) := by decide +kernel
theorem dX10_steps_78 : decode cX10_steps 78 = .ok (.iconst 5, 1) := by decide +kernel
theorem dX10_steps_79 : decode cX10_steps 79 = .ok (.aload_n 0, 1) := by decide +kernel
theorem dX10_steps_80 : decode cX10_steps 80 = .ok (.getfield 238, 3) := by decide +kernel
theorem dX10_steps_83 : decode cX10_steps 83 = .ok (.imul, 1) := by decide +kernel
theorem dX10_steps_84 : decode cX10_steps 84 = .ok (.iconst 1, 1) := by decide +kernel
theorem dX10_steps_85 : decode cX10_steps 85 = .ok (.iadd, 1) := by decide +kernel
theorem dX10_steps_86 : decode cX10_steps 86 = .ok (.aload_n 0, 1) := by decide +kernel
theorem dX10_steps_87 : decode cX10_steps 87 = .ok (.iload_n 3, 1) := by decide +kernel
theorem dX10_steps_88 : decode cX10_steps 88 = .ok (.invokevirtual 213, 3) := by decide +kernel
theorem dX10_steps_91 : decode cX10_steps 91 = .ok (.iastore, 1) := by decide +kernel
theorem dX10_steps_92 : decode cX10_steps 92 = .ok (.aload_n 0, 1) := by decide +kernel
theorem dX10_steps_93 : decode cX10_steps 93 = .ok (.getfield 49, 3) := by decide +kernel
theorem dX10_steps_96 : decode cX10_steps 96 = .ok (.iconst 5, 1) := by decide +kernel
theorem dX10_steps_97 : decode cX10_steps 97 = .ok (.aload_n 0, 1) := by decide +kernel
theorem dX10_steps_98 : decode cX10_steps 98 = .ok (.getfield 238, 3) := by decide +kernel
theorem dX10_steps_101 : decode cX10_steps 101 = .ok (.imul, 1) := by decide +kernel
theorem dX10_steps_102 : decode cX10_steps 102 = .ok (.iconst 2, 1) := by decide +kernel
theorem dX10_steps_103 : decode cX10_steps 103 = .ok (.iadd, 1) := by decide +kernel
theorem dX10_steps_104 : decode cX10_steps 104 = .ok (.aload_n 0, 1) := by decide +kernel
theorem dX10_steps_105 : decode cX10_steps 105 = .ok (.iload_n 2, 1) := by decide +kernel
theorem dX10_steps_106 : decode cX10_steps 106 = .ok (.invokevirtual 213, 3) := by decide +kernel
theorem dX10_steps_109 : decode cX10_steps 109 = .ok (.iastore, 1) := by decide +kernel
theorem dX10_steps_110 : decode cX10_steps 110 = .ok (.aload_n 0, 1) := by decide +kernel
theorem dX10_steps_111 : decode cX10_steps 111 = .ok (.getfield 49, 3) := by decide +kernel
theorem dX10_steps_114 : decode cX10_steps 114 = .ok (.iconst 5, 1) := by decide +kernel
theorem dX10_steps_115 : decode cX10_steps 115 = .ok (.aload_n 0, 1) := by decide +kernel
theorem dX10_steps_116 : decode cX10_steps 116 = .ok (.getfield 238, 3) := by decide +kernel
theorem dX10_steps_119 : decode cX10_steps 119 = .ok (.imul, 1) := by decide +kernel
theorem dX10_steps_120 : decode cX10_steps 120 = .ok (.iconst 3, 1) := by decide +kernel
theorem dX10_steps_121 : decode cX10_steps 121 = .ok (.iadd, 1) := by decide +kernel
theorem dX10_steps_122 : decode cX10_steps 122 = .ok (.iload 4, 2) := by decide +kernel
theorem dX10_steps_124 : decode cX10_steps 124 = .ok (.ifCond .eq 7, 3) := by decide +kernel
theorem dX10_steps_127 : decode cX10_steps 127 = .ok (.iconst 1, 1) := by decide +kernel
theorem dX10_steps_128 : decode cX10_steps 128 = .ok (.goto 4, 3) := by decide +kernel
theorem dX10_steps_131 : decode cX10_steps 131 = .ok (.iconst 0, 1) := by decide +kernel
theorem dX10_steps_132 : decode cX10_steps 132 = .ok (.iastore, 1) := by decide +kernel
theorem dX10_steps_133 : decode cX10_steps 133 = .ok (.aload_n 0, 1) := by decide +kernel
theorem dX10_steps_134 : decode cX10_steps 134 = .ok (.getfield 49, 3) := by decide +kernel
theorem dX10_steps_137 : decode cX10_steps 137 = .ok (.iconst 5, 1) := by decide +kernel
theorem dX10_steps_138 : decode cX10_steps 138 = .ok (.aload_n 0, 1) := by decide +kernel
theorem dX10_steps_139 : decode cX10_steps 139 = .ok (.getfield 238, 3) := by decide +kernel
theorem dX10_steps_142 : decode cX10_steps 142 = .ok (.imul, 1) := by decide +kernel
theorem dX10_steps_143 : decode cX10_steps 143 = .ok (.iconst 4, 1) := by decide +kernel
theorem dX10_steps_144 : decode cX10_steps 144 = .ok (.iadd, 1) := by decide +kernel
theorem dX10_steps_145 : decode cX10_steps 145 = .ok (.aload_n 0, 1) := by decide +kernel
theorem dX10_steps_146 : decode cX10_steps 146 = .ok (.iload_n 2, 1) := by decide +kernel
theorem dX10_steps_147 : decode cX10_steps 147 = .ok (.invokevirtual 86, 3) := by decide +kernel
theorem dX10_steps_150 : decode cX10_steps 150 = .ok (.iastore, 1) := by decide +kernel
theorem dX10_steps_151 : decode cX10_steps 151 = .ok (.aload_n 0, 1) := by decide +kernel
theorem dX10_steps_152 : decode cX10_steps 152 = .ok (.aload_n 0, 1) := by decide +kernel
theorem dX10_steps_153 : decode cX10_steps 153 = .ok (.getfield 238, 3) := by decide +kernel
theorem dX10_steps_156 : decode cX10_steps 156 = .ok (.iconst 1, 1) := by decide +kernel
theorem dX10_steps_157 : decode cX10_steps 157 = .ok (.iadd, 1) := by decide +kernel
theorem dX10_steps_158 : decode cX10_steps 158 = .ok (.putfield 238, 3) := by decide +kernel
theorem dX10_steps_161 : decode cX10_steps 161 = .ok (.iload 4, 2) := by decide +kernel
theorem dX10_steps_163 : decode cX10_steps 163 = .ok (.ifCond .eq 55, 3) := by decide +kernel
theorem dX10_steps_166 : decode cX10_steps 166 = .ok (.iconst 0, 1) := by decide +kernel
theorem dX10_steps_167 : decode cX10_steps 167 = .ok (.istore 5, 2) := by decide +kernel
theorem dX10_steps_169 : decode cX10_steps 169 = .ok (.iload 5, 2) := by decide +kernel
theorem dX10_steps_171 : decode cX10_steps 171 = .ok (.iconst 2, 1) := by decide +kernel
theorem dX10_steps_172 : decode cX10_steps 172 = .ok (.aload_n 0, 1) := by decide +kernel
theorem dX10_steps_173 : decode cX10_steps 173 = .ok (.getfield 241, 3) := by decide +kernel
theorem dX10_steps_176 : decode cX10_steps 176 = .ok (.iadd, 1) := by decide +kernel
theorem dX10_steps_177 : decode cX10_steps 177 = .ok (.if_icmp .ge 31, 3) := by decide +kernel
theorem dX10_steps_180 : decode cX10_steps 180 = .ok (.aload_n 0, 1) := by decide +kernel
theorem dX10_steps_181 : decode cX10_steps 181 = .ok (.aload_n 0, 1) := by decide +kernel
theorem dX10_steps_182 : decode cX10_steps 182 = .ok (.bipush 21, 2) := by decide +kernel
theorem dX10_steps_184 : decode cX10_steps 184 = .ok (.iload 5, 2) := by decide +kernel
theorem dX10_steps_186 : decode cX10_steps 186 = .ok (.invokevirtual 231, 3) := by decide +kernel
theorem dX10_steps_189 : decode cX10_steps 189 = .ok (.aload_n 0, 1) := by decide +kernel
theorem dX10_steps_190 : decode cX10_steps 190 = .ok (.aload_n 0, 1) := by decide +kernel
theorem dX10_steps_191 : decode cX10_steps 191 = .ok (.getfield 228, 3) := by decide +kernel
theorem dX10_steps_194 : decode cX10_steps 194 = .ok (.iload 5, 2) := by decide +kernel
theorem dX10_steps_196 : decode cX10_steps 196 = .ok (.invokevirtual 231, 3) := by decide +kernel
theorem dX10_steps_199 : decode cX10_steps 199 = .ok (.invokevirtual 198, 3) := by decide +kernel
theorem dX10_steps_202 : decode cX10_steps 202 = .ok (.iinc 5 1, 3) := by decide +kernel
theorem dX10_steps_205 : decode cX10_steps 205 = .ok (.goto (-36), 3) := by decide +kernel
theorem dX10_steps_208 : decode cX10_steps 208 = .ok (.aload_n 0, 1) := by decide +kernel
theorem dX10_steps_209 : decode cX10_steps 209 = .ok (.aload_n 0, 1) := by decide +kernel
theorem dX10_steps_210 : decode cX10_steps 210 = .ok (.getfield 228, 3) := by decide +kernel
theorem dX10_steps_213 : decode cX10_steps 213 = .ok (.iconst 1, 1) := by decide +kernel
theorem dX10_steps_214 : decode cX10_steps 214 = .ok (.iadd, 1) := by decide +kernel
theorem dX10_steps_215 : decode cX10_steps 215 = .ok (.putfield 228, 3) := by decide +kernel
theorem dX10_steps_218 : decode cX10_steps 218 = .ok (.aload_n 0, 1) := by decide +kernel
theorem dX10_steps_219 : decode cX10_steps 219 = .ok (.getfield 23, 3) := by decide +kernel
theorem dX10_steps_222 : decode cX10_steps 222 = .ok (.aload_n 0, 1) := by decide +kernel
theorem dX10_steps_223 : decode cX10_steps 223 = .ok (.iload_n 2, 1) := by decide +kernel
theorem dX10_steps_224 : decode cX10_steps 224 = .ok (.iconst 0, 1) := by decide +kernel
theorem dX10_steps_225 : decode cX10_steps 225 = .ok (.invokevirtual 68, 3) := by decide +kernel
theorem dX10_steps_228 : decode cX10_steps 228 = .ok (.iaload, 1) := by decide +kernel
theorem dX10_steps_229 : decode cX10_steps 229 = .ok (.i2l, 1) := by decide +kernel
theorem dX10_steps_230 : decode cX10_steps 230 = .ok (.aload_n 0, 1) := by decide +kernel
theorem dX10_steps_231 : decode cX10_steps 231 = .ok (.aload_n 0, 1) := by decide +kernel
theorem dX10_steps_232 : decode cX10_steps 232 = .ok (.getfield 23, 3) := by decide +kernel
theorem dX10_steps_235 : decode cX10_steps 235 = .ok (.aload_n 0, 1) := by decide +kernel
theorem dX10_steps_236 : decode cX10_steps 236 = .ok (.iload_n 3, 1) := by decide +kernel
theorem dX10_steps_237 : decode cX10_steps 237 = .ok (.iconst 0, 1) := by decide +kernel
theorem dX10_steps_238 : decode cX10_steps 238 = .ok (.invokevirtual 68, 3) := by decide +kernel
theorem dX10_steps_241 : decode cX10_steps 241 = .ok (.iaload, 1) := by decide +kernel
theorem dX10_steps_242 : decode cX10_steps 242 = .ok (.invokevirtual 244, 3) := by decide +kernel
theorem dX10_steps_245 : decode cX10_steps 245 = .ok (.i2l, 1) := by decide +kernel
theorem dX10_steps_246 : decode cX10_steps 246 = .ok (.lmul, 1) := by decide +kernel
theorem dX10_steps_247 : decode cX10_steps 247 = .ok (.aload_n 0, 1) := by decide +kernel
theorem dX10_steps_248 : decode cX10_steps 248 = .ok (.getfield 13, 3) := by decide +kernel
theorem dX10_steps_251 : decode cX10_steps 251 = .ok (.i2l, 1) := by decide +kernel
theorem dX10_steps_252 : decode cX10_steps 252 = .ok (.lrem, 1) := by decide +kernel
theorem dX10_steps_253 : decode cX10_steps 253 = .ok (.l2i, 1) := by decide +kernel
theorem dX10_steps_254 : decode cX10_steps 254 = .ok (.istore 5, 2) := by decide +kernel
theorem dX10_steps_256 : decode cX10_steps 256 = .ok (.aload_n 0, 1) := by decide +kernel
theorem dX10_steps_257 : decode cX10_steps 257 = .ok (.iload_n 2, 1) := by decide +kernel
theorem dX10_steps_258 : decode cX10_steps 258 = .ok (.sipush 292, 3) := by decide +kernel
theorem dX10_steps_261 : decode cX10_steps 261 = .ok (.invokevirtual 198, 3) := by decide +kernel
theorem dX10_steps_264 : decode cX10_steps 264 = .ok (.aload_n 0, 1) := by decide +kernel
theorem dX10_steps_265 : decode cX10_steps 265 = .ok (.iload_n 2, 1) := by decide +kernel
theorem dX10_steps_266 : decode cX10_steps 266 = .ok (.iload_n 3, 1) := by decide +kernel
theorem dX10_steps_267 : decode cX10_steps 267 = .ok (.iload 5, 2) := by decide +kernel
theorem dX10_steps_269 : decode cX10_steps 269 = .ok (.sipush 292, 3) := by decide +kernel
theorem dX10_steps_272 : decode cX10_steps 272 = .ok (.iload_n 3, 1) := by decide +kernel
theorem dX10_steps_273 : decode cX10_steps 273 = .ok (.invokevirtual 247, 3) := by decide +kernel
theorem dX10_steps_276 : decode cX10_steps 276 = .ok (.ifCond .ne 5, 3) := by decide +kernel
theorem dX10_steps_279 : decode cX10_steps 279 = .ok (.iconst 0, 1) := by decide +kernel
theorem dX10_steps_280 : decode cX10_steps 280 = .ok (.ireturn, 1) := by decide +kernel
theorem dX10_steps_281 : decode cX10_steps 281 = .ok (.aload_n 0, 1) := by decide +kernel
theorem dX10_steps_282 : decode cX10_steps 282 = .ok (.sipush 290, 3) := by decide +kernel
theorem dX10_steps_285 : decode cX10_steps 285 = .ok (.iload_n 2, 1) := by decide +kernel
theorem dX10_steps_286 : decode cX10_steps 286 = .ok (.invokevirtual 198, 3) := by decide +kernel
theorem dX10_steps_289 : decode cX10_steps 289 = .ok (.iload_n 1, 1) := by decide +kernel
theorem dX10_steps_290 : decode cX10_steps 290 = .ok (.aload_n 0, 1) := by decide +kernel
theorem dX10_steps_291 : decode cX10_steps 291 = .ok (.getfield 241, 3) := by decide +kernel
theorem dX10_steps_294 : decode cX10_steps 294 = .ok (.if_icmp .ge 14, 3) := by decide +kernel
theorem dX10_steps_297 : decode cX10_steps 297 = .ok (.aload_n 0, 1) := by decide +kernel
theorem dX10_steps_298 : decode cX10_steps 298 = .ok (.iload_n 1, 1) := by decide +kernel
theorem dX10_steps_299 : decode cX10_steps 299 = .ok (.iload 5, 2) := by decide +kernel
theorem dX10_steps_301 : decode cX10_steps 301 = .ok (.iload_n 3, 1) := by decide +kernel
theorem dX10_steps_302 : decode cX10_steps 302 = .ok (.invokevirtual 251, 3) := by decide +kernel
theorem dX10_steps_305 : decode cX10_steps 305 = .ok (.goto 11, 3) := by decide +kernel
theorem dX10_steps_308 : decode cX10_steps 308 = .ok (.aload_n 0, 1) := by decide +kernel
theorem dX10_steps_309 : decode cX10_steps 309 = .ok (.iload_n 1, 1) := by decide +kernel
theorem dX10_steps_310 : decode cX10_steps 310 = .ok (.iload 5, 2) := by decide +kernel
theorem dX10_steps_312 : decode cX10_steps 312 = .ok (.iload_n 3, 1) := by decide +kernel
theorem dX10_steps_313 : decode cX10_steps 313 = .ok (.invokevirtual 255, 3) := by decide +kernel
theorem dX10_steps_316 : decode cX10_steps 316 = .ok (.ireturn, 1) := by decide +kernel
theorem dX10_grows_0 : decode cX10_grows 0 = .ok (.aload_n 0, 1) := by decide +kernel
theorem dX10_grows_1 : decode cX10_grows 1 = .ok (.iconst 0, 1) := by decide +kernel
theorem dX10_grows_2 : decode cX10_grows 2 = .ok (.putfield 93, 3) := by decide +kernel
theorem dX10_grows_5 : decode cX10_grows 5 = .ok (.aload_n 0, 1) := by decide +kernel
theorem dX10_grows_6 : decode cX10_grows 6 = .ok (.aload_n 0, 1) := by decide +kernel
theorem dX10_grows_7 : decode cX10_grows 7 = .ok (.bipush 21, 2) := by decide +kernel
theorem dX10_grows_9 : decode cX10_grows 9 = .ok (.iconst 2, 1) := by decide +kernel
theorem dX10_grows_10 : decode cX10_grows 10 = .ok (.iload_n 1, 1) := by decide +kernel
theorem dX10_grows_11 : decode cX10_grows 11 = .ok (.iadd, 1) := by decide +kernel
theorem dX10_grows_12 : decode cX10_grows 12 = .ok (.invokevirtual 231, 3) := by decide +kernel
theorem dX10_grows_15 : decode cX10_grows 15 = .ok (.iconst 1, 1) := by decide +kernel
theorem dX10_grows_16 : decode cX10_grows 16 = .ok (.iconst 0, 1) := by decide +kernel
theorem dX10_grows_17 : decode cX10_grows 17 = .ok (.iconst 0, 1) := by decide +kernel
theorem dX10_grows_18 : decode cX10_grows 18 = .ok (.iconst 0, 1) := by decide +kernel
theorem dX10_grows_19 : decode cX10_grows 19 = .ok (.invokevirtual 124, 3) := by decide +kernel
theorem dX10_grows_22 : decode cX10_grows 22 = .ok (.aload_n 0, 1) := by decide +kernel
theorem dX10_grows_23 : decode cX10_grows 23 = .ok (.iload_n 2, 1) := by decide +kernel
theorem dX10_grows_24 : decode cX10_grows 24 = .ok (.aload_n 0, 1) := by decide +kernel
theorem dX10_grows_25 : decode cX10_grows 25 = .ok (.sipush 292, 3) := by decide +kernel
theorem dX10_grows_28 : decode cX10_grows 28 = .ok (.iconst 0, 1) := by decide +kernel
theorem dX10_grows_29 : decode cX10_grows 29 = .ok (.iconst 0, 1) := by decide +kernel
theorem dX10_grows_30 : decode cX10_grows 30 = .ok (.invokevirtual 72, 3) := by decide +kernel
theorem dX10_grows_33 : decode cX10_grows 33 = .ok (.aload_n 0, 1) := by decide +kernel
theorem dX10_grows_34 : decode cX10_grows 34 = .ok (.iload_n 3, 1) := by decide +kernel
theorem dX10_grows_35 : decode cX10_grows 35 = .ok (.iconst 0, 1) := by decide +kernel
theorem dX10_grows_36 : decode cX10_grows 36 = .ok (.iconst 0, 1) := by decide +kernel
theorem dX10_grows_37 : decode cX10_grows 37 = .ok (.invokevirtual 72, 3) := by decide +kernel
theorem dX10_grows_40 : decode cX10_grows 40 = .ok (.isub, 1) := by decide +kernel
theorem dX10_grows_41 : decode cX10_grows 41 = .ok (.aload_n 0, 1) := by decide +kernel
theorem dX10_grows_42 : decode cX10_grows 42 = .ok (.sipush 292, 3) := by decide +kernel
theorem dX10_grows_45 : decode cX10_grows 45 = .ok (.iconst 0, 1) := by decide +kernel
theorem dX10_grows_46 : decode cX10_grows 46 = .ok (.iconst 1, 1) := by decide +kernel
theorem dX10_grows_47 : decode cX10_grows 47 = .ok (.invokevirtual 72, 3) := by decide +kernel
theorem dX10_grows_50 : decode cX10_grows 50 = .ok (.aload_n 0, 1) := by decide +kernel
theorem dX10_grows_51 : decode cX10_grows 51 = .ok (.iload_n 3, 1) := by decide +kernel
theorem dX10_grows_52 : decode cX10_grows 52 = .ok (.iconst 0, 1) := by decide +kernel
theorem dX10_grows_53 : decode cX10_grows 53 = .ok (.iconst 1, 1) := by decide +kernel
theorem dX10_grows_54 : decode cX10_grows 54 = .ok (.invokevirtual 72, 3) := by decide +kernel
theorem dX10_grows_57 : decode cX10_grows 57 = .ok (.isub, 1) := by decide +kernel
theorem dX10_grows_58 : decode cX10_grows 58 = .ok (.aload_n 0, 1) := by decide +kernel
theorem dX10_grows_59 : decode cX10_grows 59 = .ok (.sipush 292, 3) := by decide +kernel
theorem dX10_grows_62 : decode cX10_grows 62 = .ok (.iconst 0, 1) := by decide +kernel
theorem dX10_grows_63 : decode cX10_grows 63 = .ok (.iconst 2, 1) := by decide +kernel
theorem dX10_grows_64 : decode cX10_grows 64 = .ok (.invokevirtual 72, 3) := by decide +kernel
theorem dX10_grows_67 : decode cX10_grows 67 = .ok (.aload_n 0, 1) := by decide +kernel
theorem dX10_grows_68 : decode cX10_grows 68 = .ok (.iload_n 3, 1) := by decide +kernel
theorem dX10_grows_69 : decode cX10_grows 69 = .ok (.iconst 0, 1) := by decide +kernel
theorem dX10_grows_70 : decode cX10_grows 70 = .ok (.iconst 2, 1) := by decide +kernel
theorem dX10_grows_71 : decode cX10_grows 71 = .ok (.invokevirtual 72, 3) := by decide +kernel
theorem dX10_grows_74 : decode cX10_grows 74 = .ok (.isub, 1) := by decide +kernel
theorem dX10_grows_75 : decode cX10_grows 75 = .ok (.invokevirtual 100, 3) := by decide +kernel
theorem dX10_grows_78 : decode cX10_grows 78 = .ok (.aload_n 0, 1) := by decide +kernel
theorem dX10_grows_79 : decode cX10_grows 79 = .ok (.sipush 290, 3) := by decide +kernel
theorem dX10_grows_82 : decode cX10_grows 82 = .ok (.invokevirtual 128, 3) := by decide +kernel
theorem dX10_grows_85 : decode cX10_grows 85 = .ok (.ifCond .ne 5, 3) := by decide +kernel
theorem dX10_grows_88 : decode cX10_grows 88 = .ok (.iconst 0, 1) := by decide +kernel
theorem dX10_grows_89 : decode cX10_grows 89 = .ok (.ireturn, 1) := by decide +kernel
theorem dX10_grows_90 : decode cX10_grows 90 = .ok (.aload_n 0, 1) := by decide +kernel
theorem dX10_grows_91 : decode cX10_grows 91 = .ok (.sipush 290, 3) := by decide +kernel
theorem dX10_grows_94 : decode cX10_grows 94 = .ok (.aload_n 0, 1) := by decide +kernel
theorem dX10_grows_95 : decode cX10_grows 95 = .ok (.bipush 21, 2) := by decide +kernel
theorem dX10_grows_97 : decode cX10_grows 97 = .ok (.iconst 2, 1) := by decide +kernel
theorem dX10_grows_98 : decode cX10_grows 98 = .ok (.iload_n 1, 1) := by decide +kernel
theorem dX10_grows_99 : decode cX10_grows 99 = .ok (.iadd, 1) := by decide +kernel
theorem dX10_grows_100 : decode cX10_grows 100 = .ok (.invokevirtual 231, 3) := by decide +kernel
theorem dX10_grows_103 : decode cX10_grows 103 = .ok (.invokevirtual 198, 3) := by decide +kernel
theorem dX10_grows_106 : decode cX10_grows 106 = .ok (.iconst 1, 1) := by decide +kernel
theorem dX10_grows_107 : decode cX10_grows 107 = .ok (.ireturn, 1) := by decide +kernel
theorem dX10_carries_0 : decode cX10_carries 0 = .ok (.iconst 1, 1) := by decide +kernel
theorem dX10_carries_1 : decode cX10_carries 1 = .ok (.istore 4, 2) := by decide +kernel
theorem dX10_carries_3 : decode cX10_carries 3 = .ok (.iload 4, 2) := by decide +kernel
theorem dX10_carries_5 : decode cX10_carries 5 = .ok (.iconst 2, 1) := by decide +kernel
theorem dX10_carries_6 : decode cX10_carries 6 = .ok (.aload_n 0, 1) := by decide +kernel
theorem dX10_carries_7 : decode cX10_carries 7 = .ok (.getfield 241, 3) := by decide +kernel
theorem dX10_carries_10 : decode cX10_carries 10 = .ok (.iadd, 1) := by decide +kernel
theorem dX10_carries_11 : decode cX10_carries 11 = .ok (.if_icmp .ge 53, 3) := by decide +kernel
theorem dX10_carries_14 : decode cX10_carries 14 = .ok (.aload_n 0, 1) := by decide +kernel
theorem dX10_carries_15 : decode cX10_carries 15 = .ok (.aload_n 0, 1) := by decide +kernel
theorem dX10_carries_16 : decode cX10_carries 16 = .ok (.bipush 21, 2) := by decide +kernel
theorem dX10_carries_18 : decode cX10_carries 18 = .ok (.iload 4, 2) := by decide +kernel
theorem dX10_carries_20 : decode cX10_carries 20 = .ok (.invokevirtual 231, 3) := by decide +kernel
theorem dX10_carries_23 : decode cX10_carries 23 = .ok (.aload_n 0, 1) := by decide +kernel
theorem dX10_carries_24 : decode cX10_carries 24 = .ok (.iload_n 1, 1) := by decide +kernel
theorem dX10_carries_25 : decode cX10_carries 25 = .ok (.iload 4, 2) := by decide +kernel
theorem dX10_carries_27 : decode cX10_carries 27 = .ok (.invokevirtual 231, 3) := by decide +kernel
theorem dX10_carries_30 : decode cX10_carries 30 = .ok (.iload_n 2, 1) := by decide +kernel
theorem dX10_carries_31 : decode cX10_carries 31 = .ok (.sipush 292, 3) := by decide +kernel
theorem dX10_carries_34 : decode cX10_carries 34 = .ok (.iload_n 3, 1) := by decide +kernel
theorem dX10_carries_35 : decode cX10_carries 35 = .ok (.invokevirtual 247, 3) := by decide +kernel
theorem dX10_carries_38 : decode cX10_carries 38 = .ok (.ifCond .ne 5, 3) := by decide +kernel
theorem dX10_carries_41 : decode cX10_carries 41 = .ok (.iconst 0, 1) := by decide +kernel
theorem dX10_carries_42 : decode cX10_carries 42 = .ok (.ireturn, 1) := by decide +kernel
theorem dX10_carries_43 : decode cX10_carries 43 = .ok (.aload_n 0, 1) := by decide +kernel
theorem dX10_carries_44 : decode cX10_carries 44 = .ok (.sipush 290, 3) := by decide +kernel
theorem dX10_carries_47 : decode cX10_carries 47 = .ok (.aload_n 0, 1) := by decide +kernel
theorem dX10_carries_48 : decode cX10_carries 48 = .ok (.bipush 21, 2) := by decide +kernel
theorem dX10_carries_50 : decode cX10_carries 50 = .ok (.iload 4, 2) := by decide +kernel
theorem dX10_carries_52 : decode cX10_carries 52 = .ok (.invokevirtual 231, 3) := by decide +kernel
theorem dX10_carries_55 : decode cX10_carries 55 = .ok (.invokevirtual 198, 3) := by decide +kernel
theorem dX10_carries_58 : decode cX10_carries 58 = .ok (.iinc 4 1, 3) := by decide +kernel
theorem dX10_carries_61 : decode cX10_carries 61 = .ok (.goto (-58), 3) := by decide +kernel
theorem dX10_carries_64 : decode cX10_carries 64 = .ok (.iconst 1, 1) := by decide +kernel
theorem dX10_carries_65 : decode cX10_carries 65 = .ok (.ireturn, 1) := by decide +kernel
theorem dX10_begins_0 : decode cX10_begins 0 = .ok (.aload_n 0, 1) := by decide +kernel
theorem dX10_begins_1 : decode cX10_begins 1 = .ok (.iconst 0, 1) := by decide +kernel
theorem dX10_begins_2 : decode cX10_begins 2 = .ok (.putfield 228, 3) := by decide +kernel
theorem dX10_begins_5 : decode cX10_begins 5 = .ok (.aload_n 0, 1) := by decide +kernel
theorem dX10_begins_6 : decode cX10_begins 6 = .ok (.iconst 0, 1) := by decide +kernel
theorem dX10_begins_7 : decode cX10_begins 7 = .ok (.putfield 258, 3) := by decide +kernel
theorem dX10_begins_10 : decode cX10_begins 10 = .ok (.aload_n 0, 1) := by decide +kernel
theorem dX10_begins_11 : decode cX10_begins 11 = .ok (.iload_n 1, 1) := by decide +kernel
theorem dX10_begins_12 : decode cX10_begins 12 = .ok (.putfield 261, 3) := by decide +kernel
theorem dX10_begins_15 : decode cX10_begins 15 = .ok (.aload_n 0, 1) := by decide +kernel
theorem dX10_begins_16 : decode cX10_begins 16 = .ok (.iconst 0, 1) := by decide +kernel
theorem dX10_begins_17 : decode cX10_begins 17 = .ok (.putfield 238, 3) := by decide +kernel
theorem dX10_begins_20 : decode cX10_begins 20 = .ok (.iconst 0, 1) := by decide +kernel
theorem dX10_begins_21 : decode cX10_begins 21 = .ok (.istore_n 3, 1) := by decide +kernel
theorem dX10_begins_22 : decode cX10_begins 22 = .ok (.iload_n 3, 1) := by decide +kernel
theorem dX10_begins_23 : decode cX10_begins 23 = .ok (.bipush 8, 2) := by decide +kernel
theorem dX10_begins_25 : decode cX10_begins 25 = .ok (.if_icmp .ge 66, 3) := by decide +kernel
theorem dX10_begins_28 : decode cX10_begins 28 = .ok (.aload_n 0, 1) := by decide +kernel
theorem dX10_begins_29 : decode cX10_begins 29 = .ok (.iload_n 2, 1) := by decide +kernel
theorem dX10_begins_30 : decode cX10_begins 30 = .ok (.iload_n 3, 1) := by decide +kernel
theorem dX10_begins_31 : decode cX10_begins 31 = .ok (.invokevirtual 264, 3) := by decide +kernel
theorem dX10_begins_34 : decode cX10_begins 34 = .ok (.ifCond .eq 51, 3) := by decide +kernel
theorem dX10_begins_37 : decode cX10_begins 37 = .ok (.aload_n 0, 1) := by decide +kernel
theorem dX10_begins_38 : decode cX10_begins 38 = .ok (.getfield 20, 3) := by decide +kernel
theorem dX10_begins_41 : decode cX10_begins 41 = .ok (.iload_n 3, 1) := by decide +kernel
theorem dX10_begins_42 : decode cX10_begins 42 = .ok (.iaload, 1) := by decide +kernel
theorem dX10_begins_43 : decode cX10_begins 43 = .ok (.ifCond .ne 6, 3) := by decide +kernel
theorem dX10_begins_46 : decode cX10_begins 46 = .ok (.goto 39, 3) := by decide +kernel
theorem dX10_begins_49 : decode cX10_begins 49 = .ok (.aload_n 0, 1) := by decide +kernel
theorem dX10_begins_50 : decode cX10_begins 50 = .ok (.iload_n 3, 1) := by decide +kernel
theorem dX10_begins_51 : decode cX10_begins 51 = .ok (.aload_n 0, 1) := by decide +kernel
theorem dX10_begins_52 : decode cX10_begins 52 = .ok (.aload_n 0, 1) := by decide +kernel
theorem dX10_begins_53 : decode cX10_begins 53 = .ok (.getfield 228, 3) := by decide +kernel
theorem dX10_begins_56 : decode cX10_begins 56 = .ok (.iconst 0, 1) := by decide +kernel
theorem dX10_begins_57 : decode cX10_begins 57 = .ok (.invokevirtual 231, 3) := by decide +kernel
theorem dX10_begins_60 : decode cX10_begins 60 = .ok (.invokevirtual 198, 3) := by decide +kernel
theorem dX10_begins_63 : decode cX10_begins 63 = .ok (.aload_n 0, 1) := by decide +kernel
theorem dX10_begins_64 : decode cX10_begins 64 = .ok (.aload_n 0, 1) := by decide +kernel
theorem dX10_begins_65 : decode cX10_begins 65 = .ok (.getfield 258, 3) := by decide +kernel
theorem dX10_begins_68 : decode cX10_begins 68 = .ok (.iconst 1, 1) := by decide +kernel
theorem dX10_begins_69 : decode cX10_begins 69 = .ok (.iload_n 3, 1) := by decide +kernel
theorem dX10_begins_70 : decode cX10_begins 70 = .ok (.ishl, 1) := by decide +kernel
theorem dX10_begins_71 : decode cX10_begins 71 = .ok (.ior, 1) := by decide +kernel
theorem dX10_begins_72 : decode cX10_begins 72 = .ok (.putfield 258, 3) := by decide +kernel
theorem dX10_begins_75 : decode cX10_begins 75 = .ok (.aload_n 0, 1) := by decide +kernel
theorem dX10_begins_76 : decode cX10_begins 76 = .ok (.aload_n 0, 1) := by decide +kernel
theorem dX10_begins_77 : decode cX10_begins 77 = .ok (.getfield 228, 3) := by decide +kernel
theorem dX10_begins_80 : decode cX10_begins 80 = .ok (.iconst 1, 1) := by decide +kernel
theorem dX10_begins_81 : decode cX10_begins 81 = .ok (.iadd, 1) := by decide +kernel
theorem dX10_begins_82 : decode cX10_begins 82 = .ok (.putfield 228, 3) := by decide +kernel
theorem dX10_begins_85 : decode cX10_begins 85 = .ok (.iinc 3 1, 3) := by decide +kernel
theorem dX10_begins_88 : decode cX10_begins 88 = .ok (.goto (-66), 3) := by decide +kernel
theorem dX10_begins_91 : decode cX10_begins 91 = .ok (.aload_n 0, 1) := by decide +kernel
theorem dX10_begins_92 : decode cX10_begins 92 = .ok (.aload_n 0, 1) := by decide +kernel
theorem dX10_begins_93 : decode cX10_begins 93 = .ok (.getfield 228, 3) := by decide +kernel
theorem dX10_begins_96 : decode cX10_begins 96 = .ok (.putfield 241, 3) := by decide +kernel
theorem dX10_begins_99 : decode cX10_begins 99 = .ok (.aload_n 0, 1) := by decide +kernel
theorem dX10_begins_100 : decode cX10_begins 100 = .ok (.iload_n 1, 1) := by decide +kernel
theorem dX10_begins_101 : decode cX10_begins 101 = .ok (.aload_n 0, 1) := by decide +kernel
theorem dX10_begins_102 : decode cX10_begins 102 = .ok (.bipush 21, 2) := by decide +kernel
theorem dX10_begins_104 : decode cX10_begins 104 = .ok (.iconst 0, 1) := by decide +kernel
theorem dX10_begins_105 : decode cX10_begins 105 = .ok (.invokevirtual 231, 3) := by decide +kernel
theorem dX10_begins_108 : decode cX10_begins 108 = .ok (.invokevirtual 198, 3) := by decide +kernel
theorem dX10_begins_111 : decode cX10_begins 111 = .ok (.aload_n 0, 1) := by decide +kernel
theorem dX10_begins_112 : decode cX10_begins 112 = .ok (.getfield 20, 3) := by decide +kernel
theorem dX10_begins_115 : decode cX10_begins 115 = .ok (.aload_n 0, 1) := by decide +kernel
theorem dX10_begins_116 : decode cX10_begins 116 = .ok (.bipush 21, 2) := by decide +kernel
theorem dX10_begins_118 : decode cX10_begins 118 = .ok (.iconst 1, 1) := by decide +kernel
theorem dX10_begins_119 : decode cX10_begins 119 = .ok (.invokevirtual 231, 3) := by decide +kernel
theorem dX10_begins_122 : decode cX10_begins 122 = .ok (.iconst 1, 1) := by decide +kernel
theorem dX10_begins_123 : decode cX10_begins 123 = .ok (.iastore, 1) := by decide +kernel
theorem dX10_begins_124 : decode cX10_begins 124 = .ok (.aload_n 0, 1) := by decide +kernel
theorem dX10_begins_125 : decode cX10_begins 125 = .ok (.getfield 23, 3) := by decide +kernel
theorem dX10_begins_128 : decode cX10_begins 128 = .ok (.aload_n 0, 1) := by decide +kernel
theorem dX10_begins_129 : decode cX10_begins 129 = .ok (.aload_n 0, 1) := by decide +kernel
theorem dX10_begins_130 : decode cX10_begins 130 = .ok (.bipush 21, 2) := by decide +kernel
theorem dX10_begins_132 : decode cX10_begins 132 = .ok (.iconst 1, 1) := by decide +kernel
theorem dX10_begins_133 : decode cX10_begins 133 = .ok (.invokevirtual 231, 3) := by decide +kernel
theorem dX10_begins_136 : decode cX10_begins 136 = .ok (.iconst 0, 1) := by decide +kernel
theorem dX10_begins_137 : decode cX10_begins 137 = .ok (.invokevirtual 68, 3) := by decide +kernel
theorem dX10_begins_140 : decode cX10_begins 140 = .ok (.iconst 1, 1) := by decide +kernel
theorem dX10_begins_141 : decode cX10_begins 141 = .ok (.iastore, 1) := by decide +kernel
theorem dX10_begins_142 : decode cX10_begins 142 = .ok (.iconst 0, 1) := by decide +kernel
theorem dX10_begins_143 : decode cX10_begins 143 = .ok (.istore_n 3, 1) := by decide +kernel
theorem dX10_begins_144 : decode cX10_begins 144 = .ok (.iload_n 3, 1) := by decide +kernel
theorem dX10_begins_145 : decode cX10_begins 145 = .ok (.iconst 3, 1) := by decide +kernel
theorem dX10_begins_146 : decode cX10_begins 146 = .ok (.if_icmp .ge 31, 3) := by decide +kernel
theorem dX10_begins_149 : decode cX10_begins 149 = .ok (.aload_n 0, 1) := by decide +kernel
theorem dX10_begins_150 : decode cX10_begins 150 = .ok (.getfield 27, 3) := by decide +kernel
theorem dX10_begins_153 : decode cX10_begins 153 = .ok (.iconst 3, 1) := by decide +kernel
theorem dX10_begins_154 : decode cX10_begins 154 = .ok (.aload_n 0, 1) := by decide +kernel
theorem dX10_begins_155 : decode cX10_begins 155 = .ok (.aload_n 0, 1) := by decide +kernel
theorem dX10_begins_156 : decode cX10_begins 156 = .ok (.bipush 21, 2) := by decide +kernel
theorem dX10_begins_158 : decode cX10_begins 158 = .ok (.iconst 1, 1) := by decide +kernel
theorem dX10_begins_159 : decode cX10_begins 159 = .ok (.invokevirtual 231, 3) := by decide +kernel
theorem dX10_begins_162 : decode cX10_begins 162 = .ok (.iconst 0, 1) := by decide +kernel
theorem dX10_begins_163 : decode cX10_begins 163 = .ok (.invokevirtual 68, 3) := by decide +kernel
theorem dX10_begins_166 : decode cX10_begins 166 = .ok (.imul, 1) := by decide +kernel
theorem dX10_begins_167 : decode cX10_begins 167 = .ok (.iload_n 3, 1) := by decide +kernel
theorem dX10_begins_168 : decode cX10_begins 168 = .ok (.iadd, 1) := by decide +kernel
theorem dX10_begins_169 : decode cX10_begins 169 = .ok (.iconst 0, 1) := by decide +kernel
theorem dX10_begins_170 : decode cX10_begins 170 = .ok (.iastore, 1) := by decide +kernel
theorem dX10_begins_171 : decode cX10_begins 171 = .ok (.iinc 3 1, 3) := by decide +kernel
theorem dX10_begins_174 : decode cX10_begins 174 = .ok (.goto (-30), 3) := by decide +kernel
theorem dX10_begins_177 : decode cX10_begins 177 = .ok (.iconst 0, 1) := by decide +kernel
theorem dX10_begins_178 : decode cX10_begins 178 = .ok (.istore_n 3, 1) := by decide +kernel
theorem dX10_begins_179 : decode cX10_begins 179 = .ok (.iload_n 3, 1) := by decide +kernel
theorem dX10_begins_180 : decode cX10_begins 180 = .ok (.aload_n 0, 1) := by decide +kernel
theorem dX10_begins_181 : decode cX10_begins 181 = .ok (.getfield 241, 3) := by decide +kernel
theorem dX10_begins_184 : decode cX10_begins 184 = .ok (.if_icmp .ge 24, 3) := by decide +kernel
theorem dX10_begins_187 : decode cX10_begins 187 = .ok (.aload_n 0, 1) := by decide +kernel
theorem dX10_begins_188 : decode cX10_begins 188 = .ok (.getfield 20, 3) := by decide +kernel
theorem dX10_begins_191 : decode cX10_begins 191 = .ok (.aload_n 0, 1) := by decide +kernel
theorem dX10_begins_192 : decode cX10_begins 192 = .ok (.bipush 21, 2) := by decide +kernel
theorem dX10_begins_194 : decode cX10_begins 194 = .ok (.iconst 2, 1) := by decide +kernel
theorem dX10_begins_195 : decode cX10_begins 195 = .ok (.iload_n 3, 1) := by decide +kernel
theorem dX10_begins_196 : decode cX10_begins 196 = .ok (.iadd, 1) := by decide +kernel
theorem dX10_begins_197 : decode cX10_begins 197 = .ok (.invokevirtual 231, 3) := by decide +kernel
theorem dX10_begins_200 : decode cX10_begins 200 = .ok (.iconst 0, 1) := by decide +kernel
theorem dX10_begins_201 : decode cX10_begins 201 = .ok (.iastore, 1) := by decide +kernel
theorem dX10_begins_202 : decode cX10_begins 202 = .ok (.iinc 3 1, 3) := by decide +kernel
theorem dX10_begins_205 : decode cX10_begins 205 = .ok (.goto (-26), 3) := by decide +kernel
theorem dX10_begins_208 : decode cX10_begins 208 = .ok (.return_, 1) := by decide +kernel
theorem dX10_weak_0 : decode cX10_weak 0 = .ok (.aload_n 0, 1) := by decide +kernel
theorem dX10_weak_1 : decode cX10_weak 1 = .ok (.iconst 0, 1) := by decide +kernel
theorem dX10_weak_2 : decode cX10_weak 2 = .ok (.putfield 65, 3) := by decide +kernel
theorem dX10_weak_5 : decode cX10_weak 5 = .ok (.aload_n 0, 1) := by decide +kernel
theorem dX10_weak_6 : decode cX10_weak 6 = .ok (.iload_n 1, 1) := by decide +kernel
theorem dX10_weak_7 : decode cX10_weak 7 = .ok (.invokevirtual 188, 3) := by decide +kernel
theorem dX10_weak_10 : decode cX10_weak 10 = .ok (.ifCond .eq 16, 3) := by decide +kernel
theorem dX10_weak_13 : decode cX10_weak 13 = .ok (.aload_n 0, 1) := by decide +kernel
theorem dX10_weak_14 : decode cX10_weak 14 = .ok (.iload_n 2, 1) := by decide +kernel
theorem dX10_weak_15 : decode cX10_weak 15 = .ok (.i2l, 1) := by decide +kernel
theorem dX10_weak_16 : decode cX10_weak 16 = .ok (.lconst 0, 1) := by decide +kernel
theorem dX10_weak_17 : decode cX10_weak 17 = .ok (.ldc2_w 267, 3) := by decide +kernel
theorem dX10_weak_20 : decode cX10_weak 20 = .ok (.invokevirtual 106, 3) := by decide +kernel
theorem dX10_weak_23 : decode cX10_weak 23 = .ok (.ifCond .ne 5, 3) := by decide +kernel
theorem dX10_weak_26 : decode cX10_weak 26 = .ok (.iconst (-1), 1) := by decide +kernel
theorem dX10_weak_27 : decode cX10_weak 27 = .ok (.ireturn, 1) := by decide +kernel
theorem dX10_weak_28 : decode cX10_weak 28 = .ok (.aload_n 0, 1) := by decide +kernel
theorem dX10_weak_29 : decode cX10_weak 29 = .ok (.iload_n 1, 1) := by decide +kernel
theorem dX10_weak_30 : decode cX10_weak 30 = .ok (.iload_n 2, 1) := by decide +kernel
theorem dX10_weak_31 : decode cX10_weak 31 = .ok (.invokevirtual 269, 3) := by decide +kernel
theorem dX10_weak_34 : decode cX10_weak 34 = .ok (.aload_n 0, 1) := by decide +kernel
theorem dX10_weak_35 : decode cX10_weak 35 = .ok (.iconst 1, 1) := by decide +kernel
theorem dX10_weak_36 : decode cX10_weak 36 = .ok (.putfield 120, 3) := by decide +kernel
theorem dX10_weak_39 : decode cX10_weak 39 = .ok (.aload_n 0, 1) := by decide +kernel
theorem dX10_weak_40 : decode cX10_weak 40 = .ok (.getfield 120, 3) := by decide +kernel
theorem dX10_weak_43 : decode cX10_weak 43 = .ok (.ifCond .eq 50, 3) := by decide +kernel
theorem dX10_weak_46 : decode cX10_weak 46 = .ok (.aload_n 0, 1) := by decide +kernel
theorem dX10_weak_47 : decode cX10_weak 47 = .ok (.getfield 20, 3) := by decide +kernel
theorem dX10_weak_50 : decode cX10_weak 50 = .ok (.aload_n 0, 1) := by decide +kernel
theorem dX10_weak_51 : decode cX10_weak 51 = .ok (.bipush 21, 2) := by decide +kernel
theorem dX10_weak_53 : decode cX10_weak 53 = .ok (.iconst 0, 1) := by decide +kernel
theorem dX10_weak_54 : decode cX10_weak 54 = .ok (.invokevirtual 231, 3) := by decide +kernel
theorem dX10_weak_57 : decode cX10_weak 57 = .ok (.iaload, 1) := by decide +kernel
theorem dX10_weak_58 : decode cX10_weak 58 = .ok (.ifCond .le 35, 3) := by decide +kernel
theorem dX10_weak_61 : decode cX10_weak 61 = .ok (.aload_n 0, 1) := by decide +kernel
theorem dX10_weak_62 : decode cX10_weak 62 = .ok (.aload_n 0, 1) := by decide +kernel
theorem dX10_weak_63 : decode cX10_weak 63 = .ok (.bipush 21, 2) := by decide +kernel
theorem dX10_weak_65 : decode cX10_weak 65 = .ok (.iconst 0, 1) := by decide +kernel
theorem dX10_weak_66 : decode cX10_weak 66 = .ok (.invokevirtual 231, 3) := by decide +kernel
theorem dX10_weak_69 : decode cX10_weak 69 = .ok (.invokevirtual 272, 3) := by decide +kernel
theorem dX10_weak_72 : decode cX10_weak 72 = .ok (.istore_n 3, 1) := by decide +kernel
theorem dX10_weak_73 : decode cX10_weak 73 = .ok (.iload_n 3, 1) := by decide +kernel
theorem dX10_weak_74 : decode cX10_weak 74 = .ok (.iconst (-1), 1) := by decide +kernel
theorem dX10_weak_75 : decode cX10_weak 75 = .ok (.if_icmp .ne 6, 3) := by decide +kernel
theorem dX10_weak_78 : decode cX10_weak 78 = .ok (.goto 15, 3) := by decide +kernel
theorem dX10_weak_81 : decode cX10_weak 81 = .ok (.aload_n 0, 1) := by decide +kernel
theorem dX10_weak_82 : decode cX10_weak 82 = .ok (.aload_n 0, 1) := by decide +kernel
theorem dX10_weak_83 : decode cX10_weak 83 = .ok (.iload_n 3, 1) := by decide +kernel
theorem dX10_weak_84 : decode cX10_weak 84 = .ok (.invokevirtual 275, 3) := by decide +kernel
theorem dX10_weak_87 : decode cX10_weak 87 = .ok (.putfield 120, 3) := by decide +kernel
theorem dX10_weak_90 : decode cX10_weak 90 = .ok (.goto (-51), 3) := by decide +kernel
theorem dX10_weak_93 : decode cX10_weak 93 = .ok (.aload_n 0, 1) := by decide +kernel
theorem dX10_weak_94 : decode cX10_weak 94 = .ok (.getfield 120, 3) := by decide +kernel
theorem dX10_weak_97 : decode cX10_weak 97 = .ok (.ifCond .eq 10, 3) := by decide +kernel
theorem dX10_weak_100 : decode cX10_weak 100 = .ok (.aload_n 0, 1) := by decide +kernel
theorem dX10_weak_101 : decode cX10_weak 101 = .ok (.getfield 238, 3) := by decide +kernel
theorem dX10_weak_104 : decode cX10_weak 104 = .ok (.goto 5, 3) := by decide +kernel
theorem dX10_weak_107 : decode cX10_weak 107 = .ok (.bipush (-2), 2) := by decide +kernel
theorem dX10_weak_109 : decode cX10_weak 109 = .ok (.ireturn, 1) := by decide +kernel
theorem dX10_aheadOf_0 : decode cX10_aheadOf 0 = .ok (.iconst 0, 1) := by decide +kernel
theorem dX10_aheadOf_1 : decode cX10_aheadOf 1 = .ok (.istore_n 2, 1) := by decide +kernel
theorem dX10_aheadOf_2 : decode cX10_aheadOf 2 = .ok (.iconst 0, 1) := by decide +kernel
theorem dX10_aheadOf_3 : decode cX10_aheadOf 3 = .ok (.istore_n 3, 1) := by decide +kernel
theorem dX10_aheadOf_4 : decode cX10_aheadOf 4 = .ok (.iload_n 3, 1) := by decide +kernel
theorem dX10_aheadOf_5 : decode cX10_aheadOf 5 = .ok (.iload_n 1, 1) := by decide +kernel
theorem dX10_aheadOf_6 : decode cX10_aheadOf 6 = .ok (.if_icmp .ge 25, 3) := by decide +kernel
theorem dX10_aheadOf_9 : decode cX10_aheadOf 9 = .ok (.aload_n 0, 1) := by decide +kernel
theorem dX10_aheadOf_10 : decode cX10_aheadOf 10 = .ok (.aload_n 0, 1) := by decide +kernel
theorem dX10_aheadOf_11 : decode cX10_aheadOf 11 = .ok (.getfield 258, 3) := by decide +kernel
theorem dX10_aheadOf_14 : decode cX10_aheadOf 14 = .ok (.iload_n 3, 1) := by decide +kernel
theorem dX10_aheadOf_15 : decode cX10_aheadOf 15 = .ok (.invokevirtual 264, 3) := by decide +kernel
theorem dX10_aheadOf_18 : decode cX10_aheadOf 18 = .ok (.ifCond .eq 7, 3) := by decide +kernel
theorem dX10_aheadOf_21 : decode cX10_aheadOf 21 = .ok (.iload_n 2, 1) := by decide +kernel
theorem dX10_aheadOf_22 : decode cX10_aheadOf 22 = .ok (.iconst 1, 1) := by decide +kernel
theorem dX10_aheadOf_23 : decode cX10_aheadOf 23 = .ok (.iadd, 1) := by decide +kernel
theorem dX10_aheadOf_24 : decode cX10_aheadOf 24 = .ok (.istore_n 2, 1) := by decide +kernel
theorem dX10_aheadOf_25 : decode cX10_aheadOf 25 = .ok (.iinc 3 1, 3) := by decide +kernel
theorem dX10_aheadOf_28 : decode cX10_aheadOf 28 = .ok (.goto (-24), 3) := by decide +kernel
theorem dX10_aheadOf_31 : decode cX10_aheadOf 31 = .ok (.iload_n 2, 1) := by decide +kernel
theorem dX10_aheadOf_32 : decode cX10_aheadOf 32 = .ok (.ireturn, 1) := by decide +kernel
theorem dX10_kept_0 : decode cX10_kept 0 = .ok (.aload_n 0, 1) := by decide +kernel
theorem dX10_kept_1 : decode cX10_kept 1 = .ok (.iconst 0, 1) := by decide +kernel
theorem dX10_kept_2 : decode cX10_kept 2 = .ok (.putfield 65, 3) := by decide +kernel
theorem dX10_kept_5 : decode cX10_kept 5 = .ok (.aload_n 0, 1) := by decide +kernel
theorem dX10_kept_6 : decode cX10_kept 6 = .ok (.getfield 120, 3) := by decide +kernel
theorem dX10_kept_9 : decode cX10_kept 9 = .ok (.ifCond .eq 43, 3) := by decide +kernel
theorem dX10_kept_12 : decode cX10_kept 12 = .ok (.aload_n 0, 1) := by decide +kernel
theorem dX10_kept_13 : decode cX10_kept 13 = .ok (.iload_n 2, 1) := by decide +kernel
theorem dX10_kept_14 : decode cX10_kept 14 = .ok (.invokevirtual 188, 3) := by decide +kernel
theorem dX10_kept_17 : decode cX10_kept 17 = .ok (.ifCond .eq 35, 3) := by decide +kernel
theorem dX10_kept_20 : decode cX10_kept 20 = .ok (.aload_n 0, 1) := by decide +kernel
theorem dX10_kept_21 : decode cX10_kept 21 = .ok (.iload_n 1, 1) := by decide +kernel
theorem dX10_kept_22 : decode cX10_kept 22 = .ok (.i2l, 1) := by decide +kernel
theorem dX10_kept_23 : decode cX10_kept 23 = .ok (.lconst 0, 1) := by decide +kernel
theorem dX10_kept_24 : decode cX10_kept 24 = .ok (.ldc2_w 278, 3) := by decide +kernel
theorem dX10_kept_27 : decode cX10_kept 27 = .ok (.invokevirtual 106, 3) := by decide +kernel
theorem dX10_kept_30 : decode cX10_kept 30 = .ok (.ifCond .eq 22, 3) := by decide +kernel
theorem dX10_kept_33 : decode cX10_kept 33 = .ok (.iload_n 1, 1) := by decide +kernel
theorem dX10_kept_34 : decode cX10_kept 34 = .ok (.iconst 1, 1) := by decide +kernel
theorem dX10_kept_35 : decode cX10_kept 35 = .ok (.if_icmp .le 19, 3) := by decide +kernel
theorem dX10_kept_38 : decode cX10_kept 38 = .ok (.aload_n 0, 1) := by decide +kernel
theorem dX10_kept_39 : decode cX10_kept 39 = .ok (.aload_n 0, 1) := by decide +kernel
theorem dX10_kept_40 : decode cX10_kept 40 = .ok (.getfield 258, 3) := by decide +kernel
theorem dX10_kept_43 : decode cX10_kept 43 = .ok (.iload_n 1, 1) := by decide +kernel
theorem dX10_kept_44 : decode cX10_kept 44 = .ok (.iconst 2, 1) := by decide +kernel
theorem dX10_kept_45 : decode cX10_kept 45 = .ok (.isub, 1) := by decide +kernel
theorem dX10_kept_46 : decode cX10_kept 46 = .ok (.invokevirtual 264, 3) := by decide +kernel
theorem dX10_kept_49 : decode cX10_kept 49 = .ok (.ifCond .ne 5, 3) := by decide +kernel
theorem dX10_kept_52 : decode cX10_kept 52 = .ok (.iconst (-1), 1) := by decide +kernel
theorem dX10_kept_53 : decode cX10_kept 53 = .ok (.ireturn, 1) := by decide +kernel
theorem dX10_kept_54 : decode cX10_kept 54 = .ok (.aload_n 0, 1) := by decide +kernel
theorem dX10_kept_55 : decode cX10_kept 55 = .ok (.aload_n 0, 1) := by decide +kernel
theorem dX10_kept_56 : decode cX10_kept 56 = .ok (.bipush 21, 2) := by decide +kernel
theorem dX10_kept_58 : decode cX10_kept 58 = .ok (.iload_n 1, 1) := by decide +kernel
theorem dX10_kept_59 : decode cX10_kept 59 = .ok (.iconst 2, 1) := by decide +kernel
theorem dX10_kept_60 : decode cX10_kept 60 = .ok (.if_icmp .ge 7, 3) := by decide +kernel
theorem dX10_kept_63 : decode cX10_kept 63 = .ok (.iload_n 1, 1) := by decide +kernel
theorem dX10_kept_64 : decode cX10_kept 64 = .ok (.goto 12, 3) := by decide +kernel
theorem dX10_kept_67 : decode cX10_kept 67 = .ok (.iconst 2, 1) := by decide +kernel
theorem dX10_kept_68 : decode cX10_kept 68 = .ok (.aload_n 0, 1) := by decide +kernel
theorem dX10_kept_69 : decode cX10_kept 69 = .ok (.iload_n 1, 1) := by decide +kernel
theorem dX10_kept_70 : decode cX10_kept 70 = .ok (.iconst 2, 1) := by decide +kernel
theorem dX10_kept_71 : decode cX10_kept 71 = .ok (.isub, 1) := by decide +kernel
theorem dX10_kept_72 : decode cX10_kept 72 = .ok (.invokevirtual 280, 3) := by decide +kernel
theorem dX10_kept_75 : decode cX10_kept 75 = .ok (.iadd, 1) := by decide +kernel
theorem dX10_kept_76 : decode cX10_kept 76 = .ok (.invokevirtual 231, 3) := by decide +kernel
theorem dX10_kept_79 : decode cX10_kept 79 = .ok (.iload_n 2, 1) := by decide +kernel
theorem dX10_kept_80 : decode cX10_kept 80 = .ok (.invokevirtual 198, 3) := by decide +kernel
theorem dX10_kept_83 : decode cX10_kept 83 = .ok (.aload_n 0, 1) := by decide +kernel
theorem dX10_kept_84 : decode cX10_kept 84 = .ok (.getfield 20, 3) := by decide +kernel
theorem dX10_kept_87 : decode cX10_kept 87 = .ok (.iload_n 2, 1) := by decide +kernel
theorem dX10_kept_88 : decode cX10_kept 88 = .ok (.iaload, 1) := by decide +kernel
theorem dX10_kept_89 : decode cX10_kept 89 = .ok (.ireturn, 1) := by decide +kernel
theorem dX10_step_0 : decode cX10_step 0 = .ok (.aload_n 0, 1) := by decide +kernel
theorem dX10_step_1 : decode cX10_step 1 = .ok (.iconst 0, 1) := by decide +kernel
theorem dX10_step_2 : decode cX10_step 2 = .ok (.putfield 65, 3) := by decide +kernel
theorem dX10_step_5 : decode cX10_step 5 = .ok (.aload_n 0, 1) := by decide +kernel
theorem dX10_step_6 : decode cX10_step 6 = .ok (.getfield 120, 3) := by decide +kernel
theorem dX10_step_9 : decode cX10_step 9 = .ok (.ifCond .ne 5, 3) := by decide +kernel
theorem dX10_step_12 : decode cX10_step 12 = .ok (.iconst (-1), 1) := by decide +kernel
theorem dX10_step_13 : decode cX10_step 13 = .ok (.ireturn, 1) := by decide +kernel
theorem dX10_step_14 : decode cX10_step 14 = .ok (.iload_n 1, 1) := by decide +kernel
theorem dX10_step_15 : decode cX10_step 15 = .ok (.iconst (-1), 1) := by decide +kernel
theorem dX10_step_16 : decode cX10_step 16 = .ok (.if_icmp .ne 37, 3) := by decide +kernel
theorem dX10_step_19 : decode cX10_step 19 = .ok (.iload_n 2, 1) := by decide +kernel
theorem dX10_step_20 : decode cX10_step 20 = .ok (.ifCond .ne 10, 3) := by decide +kernel
theorem dX10_step_23 : decode cX10_step 23 = .ok (.aload_n 0, 1) := by decide +kernel
theorem dX10_step_24 : decode cX10_step 24 = .ok (.getfield 238, 3) := by decide +kernel
theorem dX10_step_27 : decode cX10_step 27 = .ok (.goto 25, 3) := by decide +kernel
theorem dX10_step_30 : decode cX10_step 30 = .ok (.iload_n 2, 1) := by decide +kernel
theorem dX10_step_31 : decode cX10_step 31 = .ok (.iconst 1, 1) := by decide +kernel
theorem dX10_step_32 : decode cX10_step 32 = .ok (.if_icmp .ne 10, 3) := by decide +kernel
theorem dX10_step_35 : decode cX10_step 35 = .ok (.aload_n 0, 1) := by decide +kernel
theorem dX10_step_36 : decode cX10_step 36 = .ok (.getfield 228, 3) := by decide +kernel
theorem dX10_step_39 : decode cX10_step 39 = .ok (.goto 13, 3) := by decide +kernel
theorem dX10_step_42 : decode cX10_step 42 = .ok (.iload_n 2, 1) := by decide +kernel
theorem dX10_step_43 : decode cX10_step 43 = .ok (.iconst 2, 1) := by decide +kernel
theorem dX10_step_44 : decode cX10_step 44 = .ok (.if_icmp .ne 7, 3) := by decide +kernel
theorem dX10_step_47 : decode cX10_step 47 = .ok (.iconst 1, 1) := by decide +kernel
theorem dX10_step_48 : decode cX10_step 48 = .ok (.goto 4, 3) := by decide +kernel
theorem dX10_step_51 : decode cX10_step 51 = .ok (.iconst (-1), 1) := by decide +kernel
theorem dX10_step_52 : decode cX10_step 52 = .ok (.ireturn, 1) := by decide +kernel
theorem dX10_step_53 : decode cX10_step 53 = .ok (.aload_n 0, 1) := by decide +kernel
theorem dX10_step_54 : decode cX10_step 54 = .ok (.iload_n 1, 1) := by decide +kernel
theorem dX10_step_55 : decode cX10_step 55 = .ok (.i2l, 1) := by decide +kernel
theorem dX10_step_56 : decode cX10_step 56 = .ok (.lconst 0, 1) := by decide +kernel
theorem dX10_step_57 : decode cX10_step 57 = .ok (.aload_n 0, 1) := by decide +kernel
theorem dX10_step_58 : decode cX10_step 58 = .ok (.getfield 238, 3) := by decide +kernel
theorem dX10_step_61 : decode cX10_step 61 = .ok (.i2l, 1) := by decide +kernel
theorem dX10_step_62 : decode cX10_step 62 = .ok (.lconst 1, 1) := by decide +kernel
theorem dX10_step_63 : decode cX10_step 63 = .ok (.lsub, 1) := by decide +kernel
theorem dX10_step_64 : decode cX10_step 64 = .ok (.invokevirtual 106, 3) := by decide +kernel
theorem dX10_step_67 : decode cX10_step 67 = .ok (.ifCond .eq 29, 3) := by decide +kernel
theorem dX10_step_70 : decode cX10_step 70 = .ok (.aload_n 0, 1) := by decide +kernel
theorem dX10_step_71 : decode cX10_step 71 = .ok (.iload_n 2, 1) := by decide +kernel
theorem dX10_step_72 : decode cX10_step 72 = .ok (.i2l, 1) := by decide +kernel
theorem dX10_step_73 : decode cX10_step 73 = .ok (.lconst 0, 1) := by decide +kernel
theorem dX10_step_74 : decode cX10_step 74 = .ok (.ldc2_w 131, 3) := by decide +kernel
theorem dX10_step_77 : decode cX10_step 77 = .ok (.invokevirtual 106, 3) := by decide +kernel
theorem dX10_step_80 : decode cX10_step 80 = .ok (.ifCond .eq 16, 3) := by decide +kernel
theorem dX10_step_83 : decode cX10_step 83 = .ok (.aload_n 0, 1) := by decide +kernel
theorem dX10_step_84 : decode cX10_step 84 = .ok (.getfield 49, 3) := by decide +kernel
theorem dX10_step_87 : decode cX10_step 87 = .ok (.iconst 5, 1) := by decide +kernel
theorem dX10_step_88 : decode cX10_step 88 = .ok (.iload_n 1, 1) := by decide +kernel
theorem dX10_step_89 : decode cX10_step 89 = .ok (.imul, 1) := by decide +kernel
theorem dX10_step_90 : decode cX10_step 90 = .ok (.iload_n 2, 1) := by decide +kernel
theorem dX10_step_91 : decode cX10_step 91 = .ok (.iadd, 1) := by decide +kernel
theorem dX10_step_92 : decode cX10_step 92 = .ok (.iaload, 1) := by decide +kernel
theorem dX10_step_93 : decode cX10_step 93 = .ok (.goto 4, 3) := by decide +kernel
theorem dX10_step_96 : decode cX10_step 96 = .ok (.iconst (-1), 1) := by decide +kernel
theorem dX10_step_97 : decode cX10_step 97 = .ok (.ireturn, 1) := by decide +kernel
theorem dX10_bound_0 : decode cX10_bound 0 = .ok (.aload_n 0, 1) := by decide +kernel
theorem dX10_bound_1 : decode cX10_bound 1 = .ok (.getfield 7, 3) := by decide +kernel
theorem dX10_bound_4 : decode cX10_bound 4 = .ok (.iconst 1, 1) := by decide +kernel
theorem dX10_bound_5 : decode cX10_bound 5 = .ok (.if_icmp .ne 8, 3) := by decide +kernel
theorem dX10_bound_8 : decode cX10_bound 8 = .ok (.bipush 24, 2) := by decide +kernel
theorem dX10_bound_10 : decode cX10_bound 10 = .ok (.goto 18, 3) := by decide +kernel
theorem dX10_bound_13 : decode cX10_bound 13 = .ok (.aload_n 0, 1) := by decide +kernel
theorem dX10_bound_14 : decode cX10_bound 14 = .ok (.getfield 7, 3) := by decide +kernel
theorem dX10_bound_17 : decode cX10_bound 17 = .ok (.iconst 2, 1) := by decide +kernel
theorem dX10_bound_18 : decode cX10_bound 18 = .ok (.if_icmp .ne 8, 3) := by decide +kernel
theorem dX10_bound_21 : decode cX10_bound 21 = .ok (.bipush 12, 2) := by decide +kernel
theorem dX10_bound_23 : decode cX10_bound 23 = .ok (.goto 5, 3) := by decide +kernel
theorem dX10_bound_26 : decode cX10_bound 26 = .ok (.bipush 8, 2) := by decide +kernel
theorem dX10_bound_28 : decode cX10_bound 28 = .ok (.ireturn, 1) := by decide +kernel
theorem dX10_laysMonomials_0 : decode cX10_laysMonomials 0 = .ok (.aload_n 0, 1) := by decide +kernel
theorem dX10_laysMonomials_1 : decode cX10_laysMonomials 1 = .ok (.iconst 0, 1) := by decide +kernel
theorem dX10_laysMonomials_2 : decode cX10_laysMonomials 2 = .ok (.putfield 93, 3) := by decide +kernel
theorem dX10_laysMonomials_5 : decode cX10_laysMonomials 5 = .ok (.iconst 0, 1) := by decide +kernel
theorem dX10_laysMonomials_6 : decode cX10_laysMonomials 6 = .ok (.istore_n 2, 1) := by decide +kernel
theorem dX10_laysMonomials_7 : decode cX10_laysMonomials 7 = .ok (.aload_n 0, 1) := by decide +kernel
theorem dX10_laysMonomials_8 : decode cX10_laysMonomials 8 = .ok (.iload_n 2, 1) := by decide +kernel
theorem dX10_laysMonomials_9 : decode cX10_laysMonomials 9 = .ok (.iconst 0, 1) := by decide +kernel
theorem dX10_laysMonomials_10 : decode cX10_laysMonomials 10 = .ok (.iconst 0, 1) := by decide +kernel
theorem dX10_laysMonomials_11 : decode cX10_laysMonomials 11 = .ok (.invokevirtual 76, 3) := by decide +kernel
theorem dX10_laysMonomials_14 : decode cX10_laysMonomials 14 = .ok (.iload_n 1, 1) := by decide +kernel
theorem dX10_laysMonomials_15 : decode cX10_laysMonomials 15 = .ok (.if_icmp .ge 83, 3) := by decide +kernel
theorem dX10_laysMonomials_18 : decode cX10_laysMonomials 18 = .ok (.iconst 0, 1) := by decide +kernel
theorem dX10_laysMonomials_19 : decode cX10_laysMonomials 19 = .ok (.istore_n 3, 1) := by decide +kernel
theorem dX10_laysMonomials_20 : decode cX10_laysMonomials 20 = .ok (.aload_n 0, 1) := by decide +kernel
theorem dX10_laysMonomials_21 : decode cX10_laysMonomials 21 = .ok (.iload_n 2, 1) := by decide +kernel
theorem dX10_laysMonomials_22 : decode cX10_laysMonomials 22 = .ok (.iload_n 3, 1) := by decide +kernel
theorem dX10_laysMonomials_23 : decode cX10_laysMonomials 23 = .ok (.iconst 0, 1) := by decide +kernel
theorem dX10_laysMonomials_24 : decode cX10_laysMonomials 24 = .ok (.invokevirtual 76, 3) := by decide +kernel
theorem dX10_laysMonomials_27 : decode cX10_laysMonomials 27 = .ok (.iload_n 1, 1) := by decide +kernel
theorem dX10_laysMonomials_28 : decode cX10_laysMonomials 28 = .ok (.if_icmp .ge 64, 3) := by decide +kernel
theorem dX10_laysMonomials_31 : decode cX10_laysMonomials 31 = .ok (.aload_n 0, 1) := by decide +kernel
theorem dX10_laysMonomials_32 : decode cX10_laysMonomials 32 = .ok (.getfield 7, 3) := by decide +kernel
theorem dX10_laysMonomials_35 : decode cX10_laysMonomials 35 = .ok (.iconst 1, 1) := by decide +kernel
theorem dX10_laysMonomials_36 : decode cX10_laysMonomials 36 = .ok (.if_icmp .gt 7, 3) := by decide +kernel
theorem dX10_laysMonomials_39 : decode cX10_laysMonomials 39 = .ok (.iload_n 3, 1) := by decide +kernel
theorem dX10_laysMonomials_40 : decode cX10_laysMonomials 40 = .ok (.ifCond .ne 52, 3) := by decide +kernel
theorem dX10_laysMonomials_43 : decode cX10_laysMonomials 43 = .ok (.iconst 0, 1) := by decide +kernel
theorem dX10_laysMonomials_44 : decode cX10_laysMonomials 44 = .ok (.istore 4, 2) := by decide +kernel
theorem dX10_laysMonomials_46 : decode cX10_laysMonomials 46 = .ok (.aload_n 0, 1) := by decide +kernel
theorem dX10_laysMonomials_47 : decode cX10_laysMonomials 47 = .ok (.iload_n 2, 1) := by decide +kernel
theorem dX10_laysMonomials_48 : decode cX10_laysMonomials 48 = .ok (.iload_n 3, 1) := by decide +kernel
theorem dX10_laysMonomials_49 : decode cX10_laysMonomials 49 = .ok (.iload 4, 2) := by decide +kernel
theorem dX10_laysMonomials_51 : decode cX10_laysMonomials 51 = .ok (.invokevirtual 76, 3) := by decide +kernel
theorem dX10_laysMonomials_54 : decode cX10_laysMonomials 54 = .ok (.iload_n 1, 1) := by decide +kernel
theorem dX10_laysMonomials_55 : decode cX10_laysMonomials 55 = .ok (.if_icmp .ge 31, 3) := by decide +kernel
theorem dX10_laysMonomials_58 : decode cX10_laysMonomials 58 = .ok (.aload_n 0, 1) := by decide +kernel
theorem dX10_laysMonomials_59 : decode cX10_laysMonomials 59 = .ok (.getfield 7, 3) := by decide +kernel
theorem dX10_laysMonomials_62 : decode cX10_laysMonomials 62 = .ok (.iconst 2, 1) := by decide +kernel
theorem dX10_laysMonomials_63 : decode cX10_laysMonomials 63 = .ok (.if_icmp .gt 8, 3) := by decide +kernel
theorem dX10_laysMonomials_66 : decode cX10_laysMonomials 66 = .ok (.iload 4, 2) := by decide +kernel
theorem dX10_laysMonomials_68 : decode cX10_laysMonomials 68 = .ok (.ifCond .ne 18, 3) := by decide +kernel
theorem dX10_laysMonomials_71 : decode cX10_laysMonomials 71 = .ok (.aload_n 0, 1) := by decide +kernel
theorem dX10_laysMonomials_72 : decode cX10_laysMonomials 72 = .ok (.iconst 1, 1) := by decide +kernel
theorem dX10_laysMonomials_73 : decode cX10_laysMonomials 73 = .ok (.iload_n 2, 1) := by decide +kernel
theorem dX10_laysMonomials_74 : decode cX10_laysMonomials 74 = .ok (.iload_n 3, 1) := by decide +kernel
theorem dX10_laysMonomials_75 : decode cX10_laysMonomials 75 = .ok (.iload 4, 2) := by decide +kernel
theorem dX10_laysMonomials_77 : decode cX10_laysMonomials 77 = .ok (.invokevirtual 100, 3) := by decide +kernel
theorem dX10_laysMonomials_80 : decode cX10_laysMonomials 80 = .ok (.iinc 4 1, 3) := by decide +kernel
theorem dX10_laysMonomials_83 : decode cX10_laysMonomials 83 = .ok (.goto (-37), 3) := by decide +kernel
theorem dX10_laysMonomials_86 : decode cX10_laysMonomials 86 = .ok (.iinc 3 1, 3) := by decide +kernel
theorem dX10_laysMonomials_89 : decode cX10_laysMonomials 89 = .ok (.goto (-69), 3) := by decide +kernel
theorem dX10_laysMonomials_92 : decode cX10_laysMonomials 92 = .ok (.iinc 2 1, 3) := by decide +kernel
theorem dX10_laysMonomials_95 : decode cX10_laysMonomials 95 = .ok (.goto (-88), 3) := by decide +kernel
theorem dX10_laysMonomials_98 : decode cX10_laysMonomials 98 = .ok (.aload_n 0, 1) := by decide +kernel
theorem dX10_laysMonomials_99 : decode cX10_laysMonomials 99 = .ok (.aload_n 0, 1) := by decide +kernel
theorem dX10_laysMonomials_100 : decode cX10_laysMonomials 100 = .ok (.getfield 93, 3) := by decide +kernel
theorem dX10_laysMonomials_103 : decode cX10_laysMonomials 103 = .ok (.putfield 283, 3) := by decide +kernel
theorem dX10_laysMonomials_106 : decode cX10_laysMonomials 106 = .ok (.iconst 0, 1) := by decide +kernel
theorem dX10_laysMonomials_107 : decode cX10_laysMonomials 107 = .ok (.istore_n 2, 1) := by decide +kernel
theorem dX10_laysMonomials_108 : decode cX10_laysMonomials 108 = .ok (.iload_n 2, 1) := by decide +kernel
theorem dX10_laysMonomials_109 : decode cX10_laysMonomials 109 = .ok (.iconst 3, 1) := by decide +kernel
theorem dX10_laysMonomials_110 : decode cX10_laysMonomials 110 = .ok (.aload_n 0, 1) := by decide +kernel
theorem dX10_laysMonomials_111 : decode cX10_laysMonomials 111 = .ok (.getfield 93, 3) := by decide +kernel
theorem dX10_laysMonomials_114 : decode cX10_laysMonomials 114 = .ok (.imul, 1) := by decide +kernel
theorem dX10_laysMonomials_115 : decode cX10_laysMonomials 115 = .ok (.if_icmp .ge 21, 3) := by decide +kernel
theorem dX10_laysMonomials_118 : decode cX10_laysMonomials 118 = .ok (.aload_n 0, 1) := by decide +kernel
theorem dX10_laysMonomials_119 : decode cX10_laysMonomials 119 = .ok (.getfield 52, 3) := by decide +kernel
theorem dX10_laysMonomials_122 : decode cX10_laysMonomials 122 = .ok (.iload_n 2, 1) := by decide +kernel
theorem dX10_laysMonomials_123 : decode cX10_laysMonomials 123 = .ok (.aload_n 0, 1) := by decide +kernel
theorem dX10_laysMonomials_124 : decode cX10_laysMonomials 124 = .ok (.getfield 33, 3) := by decide +kernel
theorem dX10_laysMonomials_127 : decode cX10_laysMonomials 127 = .ok (.iload_n 2, 1) := by decide +kernel
theorem dX10_laysMonomials_128 : decode cX10_laysMonomials 128 = .ok (.iaload, 1) := by decide +kernel
theorem dX10_laysMonomials_129 : decode cX10_laysMonomials 129 = .ok (.iastore, 1) := by decide +kernel
theorem dX10_laysMonomials_130 : decode cX10_laysMonomials 130 = .ok (.iinc 2 1, 3) := by decide +kernel
theorem dX10_laysMonomials_133 : decode cX10_laysMonomials 133 = .ok (.goto (-25), 3) := by decide +kernel
theorem dX10_laysMonomials_136 : decode cX10_laysMonomials 136 = .ok (.return_, 1) := by decide +kernel
theorem dX10_degreeAt_0 : decode cX10_degreeAt 0 = .ok (.aload_n 0, 1) := by decide +kernel
theorem dX10_degreeAt_1 : decode cX10_degreeAt 1 = .ok (.aload_n 0, 1) := by decide +kernel
theorem dX10_degreeAt_2 : decode cX10_degreeAt 2 = .ok (.getfield 52, 3) := by decide +kernel
theorem dX10_degreeAt_5 : decode cX10_degreeAt 5 = .ok (.iconst 3, 1) := by decide +kernel
theorem dX10_degreeAt_6 : decode cX10_degreeAt 6 = .ok (.iload_n 1, 1) := by decide +kernel
theorem dX10_degreeAt_7 : decode cX10_degreeAt 7 = .ok (.imul, 1) := by decide +kernel
theorem dX10_degreeAt_8 : decode cX10_degreeAt 8 = .ok (.iaload, 1) := by decide +kernel
theorem dX10_degreeAt_9 : decode cX10_degreeAt 9 = .ok (.aload_n 0, 1) := by decide +kernel
theorem dX10_degreeAt_10 : decode cX10_degreeAt 10 = .ok (.getfield 52, 3) := by decide +kernel
theorem dX10_degreeAt_13 : decode cX10_degreeAt 13 = .ok (.iconst 3, 1) := by decide +kernel
theorem dX10_degreeAt_14 : decode cX10_degreeAt 14 = .ok (.iload_n 1, 1) := by decide +kernel
theorem dX10_degreeAt_15 : decode cX10_degreeAt 15 = .ok (.imul, 1) := by decide +kernel
theorem dX10_degreeAt_16 : decode cX10_degreeAt 16 = .ok (.iconst 1, 1) := by decide +kernel
theorem dX10_degreeAt_17 : decode cX10_degreeAt 17 = .ok (.iadd, 1) := by decide +kernel
theorem dX10_degreeAt_18 : decode cX10_degreeAt 18 = .ok (.iaload, 1) := by decide +kernel
theorem dX10_degreeAt_19 : decode cX10_degreeAt 19 = .ok (.aload_n 0, 1) := by decide +kernel
theorem dX10_degreeAt_20 : decode cX10_degreeAt 20 = .ok (.getfield 52, 3) := by decide +kernel
theorem dX10_degreeAt_23 : decode cX10_degreeAt 23 = .ok (.iconst 3, 1) := by decide +kernel
theorem dX10_degreeAt_24 : decode cX10_degreeAt 24 = .ok (.iload_n 1, 1) := by decide +kernel
theorem dX10_degreeAt_25 : decode cX10_degreeAt 25 = .ok (.imul, 1) := by decide +kernel
theorem dX10_degreeAt_26 : decode cX10_degreeAt 26 = .ok (.iconst 2, 1) := by decide +kernel
theorem dX10_degreeAt_27 : decode cX10_degreeAt 27 = .ok (.iadd, 1) := by decide +kernel
theorem dX10_degreeAt_28 : decode cX10_degreeAt 28 = .ok (.iaload, 1) := by decide +kernel
theorem dX10_degreeAt_29 : decode cX10_degreeAt 29 = .ok (.invokevirtual 76, 3) := by decide +kernel
theorem dX10_degreeAt_32 : decode cX10_degreeAt 32 = .ok (.ireturn, 1) := by decide +kernel
theorem dX10_placeOf_0 : decode cX10_placeOf 0 = .ok (.iconst 0, 1) := by decide +kernel
theorem dX10_placeOf_1 : decode cX10_placeOf 1 = .ok (.istore 4, 2) := by decide +kernel
theorem dX10_placeOf_3 : decode cX10_placeOf 3 = .ok (.aload_n 0, 1) := by decide +kernel
theorem dX10_placeOf_4 : decode cX10_placeOf 4 = .ok (.getfield 283, 3) := by decide +kernel
theorem dX10_placeOf_7 : decode cX10_placeOf 7 = .ok (.istore 5, 2) := by decide +kernel
theorem dX10_placeOf_9 : decode cX10_placeOf 9 = .ok (.iload 4, 2) := by decide +kernel
theorem dX10_placeOf_11 : decode cX10_placeOf 11 = .ok (.iload 5, 2) := by decide +kernel
theorem dX10_placeOf_13 : decode cX10_placeOf 13 = .ok (.if_icmp .ge 69, 3) := by decide +kernel
theorem dX10_placeOf_16 : decode cX10_placeOf 16 = .ok (.iload 4, 2) := by decide +kernel
theorem dX10_placeOf_18 : decode cX10_placeOf 18 = .ok (.iload 5, 2) := by decide +kernel
theorem dX10_placeOf_20 : decode cX10_placeOf 20 = .ok (.iadd, 1) := by decide +kernel
theorem dX10_placeOf_21 : decode cX10_placeOf 21 = .ok (.iconst 2, 1) := by decide +kernel
theorem dX10_placeOf_22 : decode cX10_placeOf 22 = .ok (.idiv, 1) := by decide +kernel
theorem dX10_placeOf_23 : decode cX10_placeOf 23 = .ok (.istore 6, 2) := by decide +kernel
theorem dX10_placeOf_25 : decode cX10_placeOf 25 = .ok (.aload_n 0, 1) := by decide +kernel
theorem dX10_placeOf_26 : decode cX10_placeOf 26 = .ok (.aload_n 0, 1) := by decide +kernel
theorem dX10_placeOf_27 : decode cX10_placeOf 27 = .ok (.getfield 52, 3) := by decide +kernel
theorem dX10_placeOf_30 : decode cX10_placeOf 30 = .ok (.iconst 3, 1) := by decide +kernel
theorem dX10_placeOf_31 : decode cX10_placeOf 31 = .ok (.iload 6, 2) := by decide +kernel
theorem dX10_placeOf_33 : decode cX10_placeOf 33 = .ok (.imul, 1) := by decide +kernel
theorem dX10_placeOf_34 : decode cX10_placeOf 34 = .ok (.iaload, 1) := by decide +kernel
theorem dX10_placeOf_35 : decode cX10_placeOf 35 = .ok (.aload_n 0, 1) := by decide +kernel
theorem dX10_placeOf_36 : decode cX10_placeOf 36 = .ok (.getfield 52, 3) := by decide +kernel
theorem dX10_placeOf_39 : decode cX10_placeOf 39 = .ok (.iconst 3, 1) := by decide +kernel
theorem dX10_placeOf_40 : decode cX10_placeOf 40 = .ok (.iload 6, 2) := by decide +kernel
theorem dX10_placeOf_42 : decode cX10_placeOf 42 = .ok (.imul, 1) := by decide +kernel
theorem dX10_placeOf_43 : decode cX10_placeOf 43 = .ok (.iconst 1, 1) := by decide +kernel
theorem dX10_placeOf_44 : decode cX10_placeOf 44 = .ok (.iadd, 1) := by decide +kernel
theorem dX10_placeOf_45 : decode cX10_placeOf 45 = .ok (.iaload, 1) := by decide +kernel
theorem dX10_placeOf_46 : decode cX10_placeOf 46 = .ok (.aload_n 0, 1) := by decide +kernel
theorem dX10_placeOf_47 : decode cX10_placeOf 47 = .ok (.getfield 52, 3) := by decide +kernel
theorem dX10_placeOf_50 : decode cX10_placeOf 50 = .ok (.iconst 3, 1) := by decide +kernel
theorem dX10_placeOf_51 : decode cX10_placeOf 51 = .ok (.iload 6, 2) := by decide +kernel
theorem dX10_placeOf_53 : decode cX10_placeOf 53 = .ok (.imul, 1) := by decide +kernel
theorem dX10_placeOf_54 : decode cX10_placeOf 54 = .ok (.iconst 2, 1) := by decide +kernel
theorem dX10_placeOf_55 : decode cX10_placeOf 55 = .ok (.iadd, 1) := by decide +kernel
theorem dX10_placeOf_56 : decode cX10_placeOf 56 = .ok (.iaload, 1) := by decide +kernel
theorem dX10_placeOf_57 : decode cX10_placeOf 57 = .ok (.iload_n 1, 1) := by decide +kernel
theorem dX10_placeOf_58 : decode cX10_placeOf 58 = .ok (.iload_n 2, 1) := by decide +kernel
theorem dX10_placeOf_59 : decode cX10_placeOf 59 = .ok (.iload_n 3, 1) := by decide +kernel
theorem dX10_placeOf_60 : decode cX10_placeOf 60 = .ok (.invokevirtual 89, 3) := by decide +kernel
theorem dX10_placeOf_63 : decode cX10_placeOf 63 = .ok (.ifCond .ge 12, 3) := by decide +kernel
theorem dX10_placeOf_66 : decode cX10_placeOf 66 = .ok (.iload 6, 2) := by decide +kernel
theorem dX10_placeOf_68 : decode cX10_placeOf 68 = .ok (.iconst 1, 1) := by decide +kernel
theorem dX10_placeOf_69 : decode cX10_placeOf 69 = .ok (.iadd, 1) := by decide +kernel
theorem dX10_placeOf_70 : decode cX10_placeOf 70 = .ok (.istore 4, 2) := by decide +kernel
theorem dX10_placeOf_72 : decode cX10_placeOf 72 = .ok (.goto 7, 3) := by decide +kernel
theorem dX10_placeOf_75 : decode cX10_placeOf 75 = .ok (.iload 6, 2) := by decide +kernel
theorem dX10_placeOf_77 : decode cX10_placeOf 77 = .ok (.istore 5, 2) := by decide +kernel
theorem dX10_placeOf_79 : decode cX10_placeOf 79 = .ok (.goto (-70), 3) := by decide +kernel
theorem dX10_placeOf_82 : decode cX10_placeOf 82 = .ok (.iload 4, 2) := by decide +kernel
theorem dX10_placeOf_84 : decode cX10_placeOf 84 = .ok (.aload_n 0, 1) := by decide +kernel
theorem dX10_placeOf_85 : decode cX10_placeOf 85 = .ok (.getfield 283, 3) := by decide +kernel
theorem dX10_placeOf_88 : decode cX10_placeOf 88 = .ok (.if_icmp .eq 44, 3) := by decide +kernel
theorem dX10_placeOf_91 : decode cX10_placeOf 91 = .ok (.aload_n 0, 1) := by decide +kernel
theorem dX10_placeOf_92 : decode cX10_placeOf 92 = .ok (.aload_n 0, 1) := by decide +kernel
theorem dX10_placeOf_93 : decode cX10_placeOf 93 = .ok (.getfield 52, 3) := by decide +kernel
theorem dX10_placeOf_96 : decode cX10_placeOf 96 = .ok (.iconst 3, 1) := by decide +kernel
theorem dX10_placeOf_97 : decode cX10_placeOf 97 = .ok (.iload 4, 2) := by decide +kernel
theorem dX10_placeOf_99 : decode cX10_placeOf 99 = .ok (.imul, 1) := by decide +kernel
theorem dX10_placeOf_100 : decode cX10_placeOf 100 = .ok (.iaload, 1) := by decide +kernel
theorem dX10_placeOf_101 : decode cX10_placeOf 101 = .ok (.aload_n 0, 1) := by decide +kernel
theorem dX10_placeOf_102 : decode cX10_placeOf 102 = .ok (.getfield 52, 3) := by decide +kernel
theorem dX10_placeOf_105 : decode cX10_placeOf 105 = .ok (.iconst 3, 1) := by decide +kernel
theorem dX10_placeOf_106 : decode cX10_placeOf 106 = .ok (.iload 4, 2) := by decide +kernel
theorem dX10_placeOf_108 : decode cX10_placeOf 108 = .ok (.imul, 1) := by decide +kernel
theorem dX10_placeOf_109 : decode cX10_placeOf 109 = .ok (.iconst 1, 1) := by decide +kernel
theorem dX10_placeOf_110 : decode cX10_placeOf 110 = .ok (.iadd, 1) := by decide +kernel
theorem dX10_placeOf_111 : decode cX10_placeOf 111 = .ok (.iaload, 1) := by decide +kernel
theorem dX10_placeOf_112 : decode cX10_placeOf 112 = .ok (.aload_n 0, 1) := by decide +kernel
theorem dX10_placeOf_113 : decode cX10_placeOf 113 = .ok (.getfield 52, 3) := by decide +kernel
theorem dX10_placeOf_116 : decode cX10_placeOf 116 = .ok (.iconst 3, 1) := by decide +kernel
theorem dX10_placeOf_117 : decode cX10_placeOf 117 = .ok (.iload 4, 2) := by decide +kernel
theorem dX10_placeOf_119 : decode cX10_placeOf 119 = .ok (.imul, 1) := by decide +kernel
theorem dX10_placeOf_120 : decode cX10_placeOf 120 = .ok (.iconst 2, 1) := by decide +kernel
theorem dX10_placeOf_121 : decode cX10_placeOf 121 = .ok (.iadd, 1) := by decide +kernel
theorem dX10_placeOf_122 : decode cX10_placeOf 122 = .ok (.iaload, 1) := by decide +kernel
theorem dX10_placeOf_123 : decode cX10_placeOf 123 = .ok (.iload_n 1, 1) := by decide +kernel
theorem dX10_placeOf_124 : decode cX10_placeOf 124 = .ok (.iload_n 2, 1) := by decide +kernel
theorem dX10_placeOf_125 : decode cX10_placeOf 125 = .ok (.iload_n 3, 1) := by decide +kernel
theorem dX10_placeOf_126 : decode cX10_placeOf 126 = .ok (.invokevirtual 89, 3) := by decide +kernel
theorem dX10_placeOf_129 : decode cX10_placeOf 129 = .ok (.ifCond .eq 5, 3) := by decide +kernel
theorem dX10_placeOf_132 : decode cX10_placeOf 132 = .ok (.iconst (-1), 1) := by decide +kernel
theorem dX10_placeOf_133 : decode cX10_placeOf 133 = .ok (.ireturn, 1) := by decide +kernel
theorem dX10_placeOf_134 : decode cX10_placeOf 134 = .ok (.iload 4, 2) := by decide +kernel
theorem dX10_placeOf_136 : decode cX10_placeOf 136 = .ok (.ireturn, 1) := by decide +kernel
theorem dX10_clearsRow_0 : decode cX10_clearsRow 0 = .ok (.iconst 0, 1) := by decide +kernel
theorem dX10_clearsRow_1 : decode cX10_clearsRow 1 = .ok (.istore_n 1, 1) := by decide +kernel
theorem dX10_clearsRow_2 : decode cX10_clearsRow 2 = .ok (.iload_n 1, 1) := by decide +kernel
theorem dX10_clearsRow_3 : decode cX10_clearsRow 3 = .ok (.aload_n 0, 1) := by decide +kernel
theorem dX10_clearsRow_4 : decode cX10_clearsRow 4 = .ok (.getfield 283, 3) := by decide +kernel
theorem dX10_clearsRow_7 : decode cX10_clearsRow 7 = .ok (.if_icmp .ge 16, 3) := by decide +kernel
theorem dX10_clearsRow_10 : decode cX10_clearsRow 10 = .ok (.aload_n 0, 1) := by decide +kernel
theorem dX10_clearsRow_11 : decode cX10_clearsRow 11 = .ok (.getfield 62, 3) := by decide +kernel
theorem dX10_clearsRow_14 : decode cX10_clearsRow 14 = .ok (.iload_n 1, 1) := by decide +kernel
theorem dX10_clearsRow_15 : decode cX10_clearsRow 15 = .ok (.iconst 0, 1) := by decide +kernel
theorem dX10_clearsRow_16 : decode cX10_clearsRow 16 = .ok (.iastore, 1) := by decide +kernel
theorem dX10_clearsRow_17 : decode cX10_clearsRow 17 = .ok (.iinc 1 1, 3) := by decide +kernel
theorem dX10_clearsRow_20 : decode cX10_clearsRow 20 = .ok (.goto (-18), 3) := by decide +kernel
theorem dX10_clearsRow_23 : decode cX10_clearsRow 23 = .ok (.return_, 1) := by decide +kernel
theorem dX10_laysRow_0 : decode cX10_laysRow 0 = .ok (.aload_n 0, 1) := by decide +kernel
theorem dX10_laysRow_1 : decode cX10_laysRow 1 = .ok (.invokevirtual 286, 3) := by decide +kernel
theorem dX10_laysRow_4 : decode cX10_laysRow 4 = .ok (.iconst 0, 1) := by decide +kernel
theorem dX10_laysRow_5 : decode cX10_laysRow 5 = .ok (.istore 5, 2) := by decide +kernel
theorem dX10_laysRow_7 : decode cX10_laysRow 7 = .ok (.iload 5, 2) := by decide +kernel
theorem dX10_laysRow_9 : decode cX10_laysRow 9 = .ok (.aload_n 0, 1) := by decide +kernel
theorem dX10_laysRow_10 : decode cX10_laysRow 10 = .ok (.getfield 20, 3) := by decide +kernel
theorem dX10_laysRow_13 : decode cX10_laysRow 13 = .ok (.iload_n 1, 1) := by decide +kernel
theorem dX10_laysRow_14 : decode cX10_laysRow 14 = .ok (.iaload, 1) := by decide +kernel
theorem dX10_laysRow_15 : decode cX10_laysRow 15 = .ok (.if_icmp .ge 71, 3) := by decide +kernel
theorem dX10_laysRow_18 : decode cX10_laysRow 18 = .ok (.aload_n 0, 1) := by decide +kernel
theorem dX10_laysRow_19 : decode cX10_laysRow 19 = .ok (.aload_n 0, 1) := by decide +kernel
theorem dX10_laysRow_20 : decode cX10_laysRow 20 = .ok (.iload_n 1, 1) := by decide +kernel
theorem dX10_laysRow_21 : decode cX10_laysRow 21 = .ok (.iload 5, 2) := by decide +kernel
theorem dX10_laysRow_23 : decode cX10_laysRow 23 = .ok (.iconst 0, 1) := by decide +kernel
theorem dX10_laysRow_24 : decode cX10_laysRow 24 = .ok (.invokevirtual 72, 3) := by decide +kernel
theorem dX10_laysRow_27 : decode cX10_laysRow 27 = .ok (.iload_n 2, 1) := by decide +kernel
theorem dX10_laysRow_28 : decode cX10_laysRow 28 = .ok (.iadd, 1) := by decide +kernel
theorem dX10_laysRow_29 : decode cX10_laysRow 29 = .ok (.aload_n 0, 1) := by decide +kernel
theorem dX10_laysRow_30 : decode cX10_laysRow 30 = .ok (.iload_n 1, 1) := by decide +kernel
theorem dX10_laysRow_31 : decode cX10_laysRow 31 = .ok (.iload 5, 2) := by decide +kernel
theorem dX10_laysRow_33 : decode cX10_laysRow 33 = .ok (.iconst 1, 1) := by decide +kernel
theorem dX10_laysRow_34 : decode cX10_laysRow 34 = .ok (.invokevirtual 72, 3) := by decide +kernel
theorem dX10_laysRow_37 : decode cX10_laysRow 37 = .ok (.iload_n 3, 1) := by decide +kernel
theorem dX10_laysRow_38 : decode cX10_laysRow 38 = .ok (.iadd, 1) := by decide +kernel
theorem dX10_laysRow_39 : decode cX10_laysRow 39 = .ok (.aload_n 0, 1) := by decide +kernel
theorem dX10_laysRow_40 : decode cX10_laysRow 40 = .ok (.iload_n 1, 1) := by decide +kernel
theorem dX10_laysRow_41 : decode cX10_laysRow 41 = .ok (.iload 5, 2) := by decide +kernel
theorem dX10_laysRow_43 : decode cX10_laysRow 43 = .ok (.iconst 2, 1) := by decide +kernel
theorem dX10_laysRow_44 : decode cX10_laysRow 44 = .ok (.invokevirtual 72, 3) := by decide +kernel
theorem dX10_laysRow_47 : decode cX10_laysRow 47 = .ok (.iload 4, 2) := by decide +kernel
theorem dX10_laysRow_49 : decode cX10_laysRow 49 = .ok (.iadd, 1) := by decide +kernel
theorem dX10_laysRow_50 : decode cX10_laysRow 50 = .ok (.invokevirtual 289, 3) := by decide +kernel
theorem dX10_laysRow_53 : decode cX10_laysRow 53 = .ok (.istore 6, 2) := by decide +kernel
theorem dX10_laysRow_55 : decode cX10_laysRow 55 = .ok (.iload 6, 2) := by decide +kernel
theorem dX10_laysRow_57 : decode cX10_laysRow 57 = .ok (.iconst (-1), 1) := by decide +kernel
theorem dX10_laysRow_58 : decode cX10_laysRow 58 = .ok (.if_icmp .eq 22, 3) := by decide +kernel
theorem dX10_laysRow_61 : decode cX10_laysRow 61 = .ok (.aload_n 0, 1) := by decide +kernel
theorem dX10_laysRow_62 : decode cX10_laysRow 62 = .ok (.getfield 62, 3) := by decide +kernel
theorem dX10_laysRow_65 : decode cX10_laysRow 65 = .ok (.iload 6, 2) := by decide +kernel
theorem dX10_laysRow_67 : decode cX10_laysRow 67 = .ok (.aload_n 0, 1) := by decide +kernel
theorem dX10_laysRow_68 : decode cX10_laysRow 68 = .ok (.getfield 23, 3) := by decide +kernel
theorem dX10_laysRow_71 : decode cX10_laysRow 71 = .ok (.aload_n 0, 1) := by decide +kernel
theorem dX10_laysRow_72 : decode cX10_laysRow 72 = .ok (.iload_n 1, 1) := by decide +kernel
theorem dX10_laysRow_73 : decode cX10_laysRow 73 = .ok (.iload 5, 2) := by decide +kernel
theorem dX10_laysRow_75 : decode cX10_laysRow 75 = .ok (.invokevirtual 68, 3) := by decide +kernel
theorem dX10_laysRow_78 : decode cX10_laysRow 78 = .ok (.iaload, 1) := by decide +kernel
theorem dX10_laysRow_79 : decode cX10_laysRow 79 = .ok (.iastore, 1) := by decide +kernel
theorem dX10_laysRow_80 : decode cX10_laysRow 80 = .ok (.iinc 5 1, 3) := by decide +kernel
theorem dX10_laysRow_83 : decode cX10_laysRow 83 = .ok (.goto (-76), 3) := by decide +kernel
theorem dX10_laysRow_86 : decode cX10_laysRow 86 = .ok (.return_, 1) := by decide +kernel
theorem dX10_reduces_0 : decode cX10_reduces 0 = .ok (.iconst 0, 1) := by decide +kernel
theorem dX10_reduces_1 : decode cX10_reduces 1 = .ok (.istore_n 1, 1) := by decide +kernel
theorem dX10_reduces_2 : decode cX10_reduces 2 = .ok (.iload_n 1, 1) := by decide +kernel
theorem dX10_reduces_3 : decode cX10_reduces 3 = .ok (.aload_n 0, 1) := by decide +kernel
theorem dX10_reduces_4 : decode cX10_reduces 4 = .ok (.getfield 283, 3) := by decide +kernel
theorem dX10_reduces_7 : decode cX10_reduces 7 = .ok (.if_icmp .ge 99, 3) := by decide +kernel
theorem dX10_reduces_10 : decode cX10_reduces 10 = .ok (.aload_n 0, 1) := by decide +kernel
theorem dX10_reduces_11 : decode cX10_reduces 11 = .ok (.getfield 62, 3) := by decide +kernel
theorem dX10_reduces_14 : decode cX10_reduces 14 = .ok (.iload_n 1, 1) := by decide +kernel
theorem dX10_reduces_15 : decode cX10_reduces 15 = .ok (.iaload, 1) := by decide +kernel
theorem dX10_reduces_16 : decode cX10_reduces 16 = .ok (.ifCond .eq 84, 3) := by decide +kernel
theorem dX10_reduces_19 : decode cX10_reduces 19 = .ok (.aload_n 0, 1) := by decide +kernel
theorem dX10_reduces_20 : decode cX10_reduces 20 = .ok (.getfield 58, 3) := by decide +kernel
theorem dX10_reduces_23 : decode cX10_reduces 23 = .ok (.iload_n 1, 1) := by decide +kernel
theorem dX10_reduces_24 : decode cX10_reduces 24 = .ok (.baload, 1) := by decide +kernel
theorem dX10_reduces_25 : decode cX10_reduces 25 = .ok (.ifCond .ne 6, 3) := by decide +kernel
theorem dX10_reduces_28 : decode cX10_reduces 28 = .ok (.goto 72, 3) := by decide +kernel
theorem dX10_reduces_31 : decode cX10_reduces 31 = .ok (.aload_n 0, 1) := by decide +kernel
theorem dX10_reduces_32 : decode cX10_reduces 32 = .ok (.getfield 13, 3) := by decide +kernel
theorem dX10_reduces_35 : decode cX10_reduces 35 = .ok (.aload_n 0, 1) := by decide +kernel
theorem dX10_reduces_36 : decode cX10_reduces 36 = .ok (.getfield 62, 3) := by decide +kernel
theorem dX10_reduces_39 : decode cX10_reduces 39 = .ok (.iload_n 1, 1) := by decide +kernel
theorem dX10_reduces_40 : decode cX10_reduces 40 = .ok (.iaload, 1) := by decide +kernel
theorem dX10_reduces_41 : decode cX10_reduces 41 = .ok (.isub, 1) := by decide +kernel
theorem dX10_reduces_42 : decode cX10_reduces 42 = .ok (.i2l, 1) := by decide +kernel
theorem dX10_reduces_43 : decode cX10_reduces 43 = .ok (.lstore_n 2, 1) := by decide +kernel
theorem dX10_reduces_44 : decode cX10_reduces 44 = .ok (.iload_n 1, 1) := by decide +kernel
theorem dX10_reduces_45 : decode cX10_reduces 45 = .ok (.istore 4, 2) := by decide +kernel
theorem dX10_reduces_47 : decode cX10_reduces 47 = .ok (.iload 4, 2) := by decide +kernel
theorem dX10_reduces_49 : decode cX10_reduces 49 = .ok (.aload_n 0, 1) := by decide +kernel
theorem dX10_reduces_50 : decode cX10_reduces 50 = .ok (.getfield 283, 3) := by decide +kernel
theorem dX10_reduces_53 : decode cX10_reduces 53 = .ok (.if_icmp .ge 47, 3) := by decide +kernel
theorem dX10_reduces_56 : decode cX10_reduces 56 = .ok (.aload_n 0, 1) := by decide +kernel
theorem dX10_reduces_57 : decode cX10_reduces 57 = .ok (.getfield 62, 3) := by decide +kernel
theorem dX10_reduces_60 : decode cX10_reduces 60 = .ok (.iload 4, 2) := by decide +kernel
theorem dX10_reduces_62 : decode cX10_reduces 62 = .ok (.aload_n 0, 1) := by decide +kernel
theorem dX10_reduces_63 : decode cX10_reduces 63 = .ok (.getfield 62, 3) := by decide +kernel
theorem dX10_reduces_66 : decode cX10_reduces 66 = .ok (.iload 4, 2) := by decide +kernel
theorem dX10_reduces_68 : decode cX10_reduces 68 = .ok (.iaload, 1) := by decide +kernel
theorem dX10_reduces_69 : decode cX10_reduces 69 = .ok (.i2l, 1) := by decide +kernel
theorem dX10_reduces_70 : decode cX10_reduces 70 = .ok (.lload_n 2, 1) := by decide +kernel
theorem dX10_reduces_71 : decode cX10_reduces 71 = .ok (.aload_n 0, 1) := by decide +kernel
theorem dX10_reduces_72 : decode cX10_reduces 72 = .ok (.getfield 55, 3) := by decide +kernel
theorem dX10_reduces_75 : decode cX10_reduces 75 = .ok (.bipush 120, 2) := by decide +kernel
theorem dX10_reduces_77 : decode cX10_reduces 77 = .ok (.iload_n 1, 1) := by decide +kernel
theorem dX10_reduces_78 : decode cX10_reduces 78 = .ok (.imul, 1) := by decide +kernel
theorem dX10_reduces_79 : decode cX10_reduces 79 = .ok (.iload 4, 2) := by decide +kernel
theorem dX10_reduces_81 : decode cX10_reduces 81 = .ok (.iadd, 1) := by decide +kernel
theorem dX10_reduces_82 : decode cX10_reduces 82 = .ok (.iaload, 1) := by decide +kernel
theorem dX10_reduces_83 : decode cX10_reduces 83 = .ok (.i2l, 1) := by decide +kernel
theorem dX10_reduces_84 : decode cX10_reduces 84 = .ok (.lmul, 1) := by decide +kernel
theorem dX10_reduces_85 : decode cX10_reduces 85 = .ok (.ladd, 1) := by decide +kernel
theorem dX10_reduces_86 : decode cX10_reduces 86 = .ok (.aload_n 0, 1) := by decide +kernel
theorem dX10_reduces_87 : decode cX10_reduces 87 = .ok (.getfield 13, 3) := by decide +kernel
theorem dX10_reduces_90 : decode cX10_reduces 90 = .ok (.i2l, 1) := by decide +kernel
theorem dX10_reduces_91 : decode cX10_reduces 91 = .ok (.lrem, 1) := by decide +kernel
theorem dX10_reduces_92 : decode cX10_reduces 92 = .ok (.l2i, 1) := by decide +kernel
theorem dX10_reduces_93 : decode cX10_reduces 93 = .ok (.iastore, 1) := by decide +kernel
theorem dX10_reduces_94 : decode cX10_reduces 94 = .ok (.iinc 4 1, 3) := by decide +kernel
theorem dX10_reduces_97 : decode cX10_reduces 97 = .ok (.goto (-50), 3) := by decide +kernel
theorem dX10_reduces_100 : decode cX10_reduces 100 = .ok (.iinc 1 1, 3) := by decide +kernel
theorem dX10_reduces_103 : decode cX10_reduces 103 = .ok (.goto (-101), 3) := by decide +kernel
theorem dX10_reduces_106 : decode cX10_reduces 106 = .ok (.return_, 1) := by decide +kernel
theorem dX10_addsRow_0 : decode cX10_addsRow 0 = .ok (.aload_n 0, 1) := by decide +kernel
theorem dX10_addsRow_1 : decode cX10_addsRow 1 = .ok (.invokevirtual 292, 3) := by decide +kernel
theorem dX10_addsRow_4 : decode cX10_addsRow 4 = .ok (.iconst 0, 1) := by decide +kernel
theorem dX10_addsRow_5 : decode cX10_addsRow 5 = .ok (.istore_n 1, 1) := by decide +kernel
theorem dX10_addsRow_6 : decode cX10_addsRow 6 = .ok (.iload_n 1, 1) := by decide +kernel
theorem dX10_addsRow_7 : decode cX10_addsRow 7 = .ok (.aload_n 0, 1) := by decide +kernel
theorem dX10_addsRow_8 : decode cX10_addsRow 8 = .ok (.getfield 283, 3) := by decide +kernel
theorem dX10_addsRow_11 : decode cX10_addsRow 11 = .ok (.if_icmp .ge 19, 3) := by decide +kernel
theorem dX10_addsRow_14 : decode cX10_addsRow 14 = .ok (.aload_n 0, 1) := by decide +kernel
theorem dX10_addsRow_15 : decode cX10_addsRow 15 = .ok (.getfield 62, 3) := by decide +kernel
theorem dX10_addsRow_18 : decode cX10_addsRow 18 = .ok (.iload_n 1, 1) := by decide +kernel
theorem dX10_addsRow_19 : decode cX10_addsRow 19 = .ok (.iaload, 1) := by decide +kernel
