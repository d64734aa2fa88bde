theorem dX5_init_0 : decode cX5_init 0 = .ok (.aload_n 0, 1) := by decide +kernel
theorem dX5_init_1 : decode cX5_init 1 = .ok (.invokespecial 3, 3) := by decide +kernel
theorem dX5_init_4 : decode cX5_init 4 = .ok (.iload_n 1, 1) := by decide +kernel
theorem dX5_init_5 : decode cX5_init 5 = .ok (.iconst 0, 1) := by decide +kernel
theorem dX5_init_6 : decode cX5_init 6 = .ok (.invokestatic 9, 3) := by decide +kernel
theorem dX5_init_9 : decode cX5_init 9 = .ok (.istore_n 2, 1) := by decide +kernel
theorem dX5_init_10 : decode cX5_init 10 = .ok (.aload_n 0, 1) := by decide +kernel
theorem dX5_init_11 : decode cX5_init 11 = .ok (.iload_n 2, 1) := by decide +kernel
theorem dX5_init_12 : decode cX5_init 12 = .ok (.newarray .int, 2) := by decide +kernel
theorem dX5_init_14 : decode cX5_init 14 = .ok (.putfield 15, 3) := by decide +kernel
theorem dX5_init_17 : decode cX5_init 17 = .ok (.aload_n 0, 1) := by decide +kernel
theorem dX5_init_18 : decode cX5_init 18 = .ok (.iload_n 2, 1) := by decide +kernel
theorem dX5_init_19 : decode cX5_init 19 = .ok (.newarray .int, 2) := by decide +kernel
theorem dX5_init_21 : decode cX5_init 21 = .ok (.putfield 21, 3) := by decide +kernel
theorem dX5_init_24 : decode cX5_init 24 = .ok (.return_, 1) := by decide +kernel
theorem dX5_clear_0 : decode cX5_clear 0 = .ok (.aload_n 0, 1) := by decide +kernel
theorem dX5_clear_1 : decode cX5_clear 1 = .ok (.iconst 0, 1) := by decide +kernel
theorem dX5_clear_2 : decode cX5_clear 2 = .ok (.putfield 24, 3) := by decide +kernel
theorem dX5_clear_5 : decode cX5_clear 5 = .ok (.return_, 1) := by decide +kernel
theorem dX5_low_0 : decode cX5_low 0 = .ok (.aload_n 0, 1) := by decide +kernel
theorem dX5_low_1 : decode cX5_low 1 = .ok (.getfield 24, 3) := by decide +kernel
theorem dX5_low_4 : decode cX5_low 4 = .ok (.ifCond .le 15, 3) := by decide +kernel
theorem dX5_low_7 : decode cX5_low 7 = .ok (.aload_n 0, 1) := by decide +kernel
theorem dX5_low_8 : decode cX5_low 8 = .ok (.getfield 15, 3) := by decide +kernel
theorem dX5_low_11 : decode cX5_low 11 = .ok (.iconst 0, 1) := by decide +kernel
theorem dX5_low_12 : decode cX5_low 12 = .ok (.iaload, 1) := by decide +kernel
theorem dX5_low_13 : decode cX5_low 13 = .ok (.invokestatic 28, 3) := by decide +kernel
theorem dX5_low_16 : decode cX5_low 16 = .ok (.goto 4, 3) := by decide +kernel
theorem dX5_low_19 : decode cX5_low 19 = .ok (.iconst (-1), 1) := by decide +kernel
theorem dX5_low_20 : decode cX5_low 20 = .ok (.ireturn, 1) := by decide +kernel
theorem dX5_high_0 : decode cX5_high 0 = .ok (.aload_n 0, 1) := by decide +kernel
theorem dX5_high_1 : decode cX5_high 1 = .ok (.getfield 24, 3) := by decide +kernel
theorem dX5_high_4 : decode cX5_high 4 = .ok (.ifCond .le 20, 3) := by decide +kernel
theorem dX5_high_7 : decode cX5_high 7 = .ok (.aload_n 0, 1) := by decide +kernel
theorem dX5_high_8 : decode cX5_high 8 = .ok (.getfield 15, 3) := by decide +kernel
theorem dX5_high_11 : decode cX5_high 11 = .ok (.aload_n 0, 1) := by decide +kernel
theorem dX5_high_12 : decode cX5_high 12 = .ok (.getfield 24, 3) := by decide +kernel
theorem dX5_high_15 : decode cX5_high 15 = .ok (.iconst 1, 1) := by decide +kernel
theorem dX5_high_16 : decode cX5_high 16 = .ok (.isub, 1) := by decide +kernel
theorem dX5_high_17 : decode cX5_high 17 = .ok (.iaload, 1) := by decide +kernel
theorem dX5_high_18 : decode cX5_high 18 = .ok (.invokestatic 28, 3) := by decide +kernel
theorem dX5_high_21 : decode cX5_high 21 = .ok (.goto 4, 3) := by decide +kernel
theorem dX5_high_24 : decode cX5_high 24 = .ok (.iconst (-1), 1) := by decide +kernel
theorem dX5_high_25 : decode cX5_high 25 = .ok (.ireturn, 1) := by decide +kernel
theorem dX5_ecart_0 : decode cX5_ecart 0 = .ok (.aload_n 0, 1) := by decide +kernel
theorem dX5_ecart_1 : decode cX5_ecart 1 = .ok (.getfield 24, 3) := by decide +kernel
theorem dX5_ecart_4 : decode cX5_ecart 4 = .ok (.ifCond .le 15, 3) := by decide +kernel
theorem dX5_ecart_7 : decode cX5_ecart 7 = .ok (.aload_n 0, 1) := by decide +kernel
theorem dX5_ecart_8 : decode cX5_ecart 8 = .ok (.invokevirtual 34, 3) := by decide +kernel
theorem dX5_ecart_11 : decode cX5_ecart 11 = .ok (.aload_n 0, 1) := by decide +kernel
theorem dX5_ecart_12 : decode cX5_ecart 12 = .ok (.invokevirtual 38, 3) := by decide +kernel
theorem dX5_ecart_15 : decode cX5_ecart 15 = .ok (.isub, 1) := by decide +kernel
theorem dX5_ecart_16 : decode cX5_ecart 16 = .ok (.goto 4, 3) := by decide +kernel
theorem dX5_ecart_19 : decode cX5_ecart 19 = .ok (.iconst (-1), 1) := by decide +kernel
theorem dX5_ecart_20 : decode cX5_ecart 20 = .ok (.ireturn, 1) := by decide +kernel
theorem dX5_append_0 : decode cX5_append 0 = .ok (.aload_n 0, 1) := by decide +kernel
theorem dX5_append_1 : decode cX5_append 1 = .ok (.getfield 24, 3) := by decide +kernel
theorem dX5_append_4 : decode cX5_append 4 = .ok (.aload_n 0, 1) := by decide +kernel
theorem dX5_append_5 : decode cX5_append 5 = .ok (.getfield 15, 3) := by decide +kernel
theorem dX5_append_8 : decode cX5_append 8 = .ok (.arraylength, 1) := by decide +kernel
theorem dX5_append_9 : decode cX5_append 9 = .ok (.if_icmp .ge 10, 3) := by decide +kernel
theorem dX5_append_12 : decode cX5_append 12 = .ok (.iload_n 1, 1) := by decide +kernel
theorem dX5_append_13 : decode cX5_append 13 = .ok (.invokestatic 41, 3) := by decide +kernel
theorem dX5_append_16 : decode cX5_append 16 = .ok (.ifCond .eq 5, 3) := by decide +kernel
theorem dX5_append_19 : decode cX5_append 19 = .ok (.iconst 0, 1) := by decide +kernel
theorem dX5_append_20 : decode cX5_append 20 = .ok (.ireturn, 1) := by decide +kernel
theorem dX5_append_21 : decode cX5_append 21 = .ok (.aload_n 0, 1) := by decide +kernel
theorem dX5_append_22 : decode cX5_append 22 = .ok (.getfield 15, 3) := by decide +kernel
theorem dX5_append_25 : decode cX5_append 25 = .ok (.aload_n 0, 1) := by decide +kernel
theorem dX5_append_26 : decode cX5_append 26 = .ok (.getfield 24, 3) := by decide +kernel
theorem dX5_append_29 : decode cX5_append 29 = .ok (.iload_n 1, 1) := by decide +kernel
theorem dX5_append_30 : decode cX5_append 30 = .ok (.iastore, 1) := by decide +kernel
theorem dX5_append_31 : decode cX5_append 31 = .ok (.aload_n 0, 1) := by decide +kernel
theorem dX5_append_32 : decode cX5_append 32 = .ok (.getfield 21, 3) := by decide +kernel
theorem dX5_append_35 : decode cX5_append 35 = .ok (.aload_n 0, 1) := by decide +kernel
theorem dX5_append_36 : decode cX5_append 36 = .ok (.getfield 24, 3) := by decide +kernel
theorem dX5_append_39 : decode cX5_append 39 = .ok (.iload_n 2, 1) := by decide +kernel
theorem dX5_append_40 : decode cX5_append 40 = .ok (.iastore, 1) := by decide +kernel
theorem dX5_append_41 : decode cX5_append 41 = .ok (.aload_n 0, 1) := by decide +kernel
theorem dX5_append_42 : decode cX5_append 42 = .ok (.dup, 1) := by decide +kernel
theorem dX5_append_43 : decode cX5_append 43 = .ok (.getfield 24, 3) := by decide +kernel
theorem dX5_append_46 : decode cX5_append 46 = .ok (.iconst 1, 1) := by decide +kernel
theorem dX5_append_47 : decode cX5_append 47 = .ok (.iadd, 1) := by decide +kernel
theorem dX5_append_48 : decode cX5_append 48 = .ok (.putfield 24, 3) := by decide +kernel
theorem dX5_append_51 : decode cX5_append 51 = .ok (.iconst 1, 1) := by decide +kernel
theorem dX5_append_52 : decode cX5_append 52 = .ok (.ireturn, 1) := by decide +kernel
theorem dX5_become_0 : decode cX5_become 0 = .ok (.aload_n 0, 1) := by decide +kernel
theorem dX5_become_1 : decode cX5_become 1 = .ok (.aload_n 1, 1) := by decide +kernel
theorem dX5_become_2 : decode cX5_become 2 = .ok (.getfield 24, 3) := by decide +kernel
theorem dX5_become_5 : decode cX5_become 5 = .ok (.aload_n 0, 1) := by decide +kernel
theorem dX5_become_6 : decode cX5_become 6 = .ok (.getfield 15, 3) := by decide +kernel
theorem dX5_become_9 : decode cX5_become 9 = .ok (.arraylength, 1) := by decide +kernel
theorem dX5_become_10 : decode cX5_become 10 = .ok (.invokestatic 45, 3) := by decide +kernel
theorem dX5_become_13 : decode cX5_become 13 = .ok (.putfield 24, 3) := by decide +kernel
theorem dX5_become_16 : decode cX5_become 16 = .ok (.aload_n 1, 1) := by decide +kernel
theorem dX5_become_17 : decode cX5_become 17 = .ok (.getfield 15, 3) := by decide +kernel
theorem dX5_become_20 : decode cX5_become 20 = .ok (.iconst 0, 1) := by decide +kernel
theorem dX5_become_21 : decode cX5_become 21 = .ok (.aload_n 0, 1) := by decide +kernel
theorem dX5_become_22 : decode cX5_become 22 = .ok (.getfield 15, 3) := by decide +kernel
theorem dX5_become_25 : decode cX5_become 25 = .ok (.iconst 0, 1) := by decide +kernel
theorem dX5_become_26 : decode cX5_become 26 = .ok (.aload_n 0, 1) := by decide +kernel
theorem dX5_become_27 : decode cX5_become 27 = .ok (.getfield 24, 3) := by decide +kernel
theorem dX5_become_30 : decode cX5_become 30 = .ok (.invokestatic 48, 3) := by decide +kernel
theorem dX5_become_33 : decode cX5_become 33 = .ok (.aload_n 1, 1) := by decide +kernel
theorem dX5_become_34 : decode cX5_become 34 = .ok (.getfield 21, 3) := by decide +kernel
theorem dX5_become_37 : decode cX5_become 37 = .ok (.iconst 0, 1) := by decide +kernel
theorem dX5_become_38 : decode cX5_become 38 = .ok (.aload_n 0, 1) := by decide +kernel
theorem dX5_become_39 : decode cX5_become 39 = .ok (.getfield 21, 3) := by decide +kernel
theorem dX5_become_42 : decode cX5_become 42 = .ok (.iconst 0, 1) := by decide +kernel
theorem dX5_become_43 : decode cX5_become 43 = .ok (.aload_n 0, 1) := by decide +kernel
theorem dX5_become_44 : decode cX5_become 44 = .ok (.getfield 24, 3) := by decide +kernel
theorem dX5_become_47 : decode cX5_become 47 = .ok (.invokestatic 48, 3) := by decide +kernel
theorem dX5_become_50 : decode cX5_become 50 = .ok (.return_, 1) := by decide +kernel
theorem dX5_becomeNumber_0 : decode cX5_becomeNumber 0 = .ok (.aload_n 0, 1) := by decide +kernel
theorem dX5_becomeNumber_1 : decode cX5_becomeNumber 1 = .ok (.iconst 0, 1) := by decide +kernel
theorem dX5_becomeNumber_2 : decode cX5_becomeNumber 2 = .ok (.putfield 24, 3) := by decide +kernel
theorem dX5_becomeNumber_5 : decode cX5_becomeNumber 5 = .ok (.aload_n 0, 1) := by decide +kernel
theorem dX5_becomeNumber_6 : decode cX5_becomeNumber 6 = .ok (.ldc 54, 2) := by decide +kernel
theorem dX5_becomeNumber_8 : decode cX5_becomeNumber 8 = .ok (.iload_n 1, 1) := by decide +kernel
theorem dX5_becomeNumber_9 : decode cX5_becomeNumber 9 = .ok (.invokevirtual 55, 3) := by decide +kernel
theorem dX5_becomeNumber_12 : decode cX5_becomeNumber 12 = .ok (.pop, 1) := by decide +kernel
theorem dX5_becomeNumber_13 : decode cX5_becomeNumber 13 = .ok (.return_, 1) := by decide +kernel
theorem dX5_mix_0 : decode cX5_mix 0 = .ok (.aload_n 0, 1) := by decide +kernel
theorem dX5_mix_1 : decode cX5_mix 1 = .ok (.iconst 0, 1) := by decide +kernel
theorem dX5_mix_2 : decode cX5_mix 2 = .ok (.putfield 24, 3) := by decide +kernel
theorem dX5_mix_5 : decode cX5_mix 5 = .ok (.iconst 0, 1) := by decide +kernel
theorem dX5_mix_6 : decode cX5_mix 6 = .ok (.istore 6, 2) := by decide +kernel
theorem dX5_mix_8 : decode cX5_mix 8 = .ok (.iconst 0, 1) := by decide +kernel
theorem dX5_mix_9 : decode cX5_mix 9 = .ok (.istore 7, 2) := by decide +kernel
theorem dX5_mix_11 : decode cX5_mix 11 = .ok (.aload_n 1, 1) := by decide +kernel
theorem dX5_mix_12 : decode cX5_mix 12 = .ok (.getfield 24, 3) := by decide +kernel
theorem dX5_mix_15 : decode cX5_mix 15 = .ok (.aload 4, 2) := by decide +kernel
theorem dX5_mix_17 : decode cX5_mix 17 = .ok (.getfield 24, 3) := by decide +kernel
theorem dX5_mix_20 : decode cX5_mix 20 = .ok (.iadd, 1) := by decide +kernel
theorem dX5_mix_21 : decode cX5_mix 21 = .ok (.istore 8, 2) := by decide +kernel
theorem dX5_mix_23 : decode cX5_mix 23 = .ok (.iload 8, 2) := by decide +kernel
theorem dX5_mix_25 : decode cX5_mix 25 = .ok (.ifCond .le 172, 3) := by decide +kernel
theorem dX5_mix_28 : decode cX5_mix 28 = .ok (.iload 6, 2) := by decide +kernel
theorem dX5_mix_30 : decode cX5_mix 30 = .ok (.aload_n 1, 1) := by decide +kernel
theorem dX5_mix_31 : decode cX5_mix 31 = .ok (.getfield 24, 3) := by decide +kernel
theorem dX5_mix_34 : decode cX5_mix 34 = .ok (.if_icmp .lt 13, 3) := by decide +kernel
theorem dX5_mix_37 : decode cX5_mix 37 = .ok (.iload 7, 2) := by decide +kernel
theorem dX5_mix_39 : decode cX5_mix 39 = .ok (.aload 4, 2) := by decide +kernel
theorem dX5_mix_41 : decode cX5_mix 41 = .ok (.getfield 24, 3) := by decide +kernel
theorem dX5_mix_44 : decode cX5_mix 44 = .ok (.if_icmp .ge 153, 3) := by decide +kernel
theorem dX5_mix_47 : decode cX5_mix 47 = .ok (.iload 6, 2) := by decide +kernel
theorem dX5_mix_49 : decode cX5_mix 49 = .ok (.aload_n 1, 1) := by decide +kernel
theorem dX5_mix_50 : decode cX5_mix 50 = .ok (.getfield 24, 3) := by decide +kernel
theorem dX5_mix_53 : decode cX5_mix 53 = .ok (.if_icmp .ge 13, 3) := by decide +kernel
theorem dX5_mix_56 : decode cX5_mix 56 = .ok (.aload_n 1, 1) := by decide +kernel
theorem dX5_mix_57 : decode cX5_mix 57 = .ok (.getfield 15, 3) := by decide +kernel
theorem dX5_mix_60 : decode cX5_mix 60 = .ok (.iload 6, 2) := by decide +kernel
theorem dX5_mix_62 : decode cX5_mix 62 = .ok (.iaload, 1) := by decide +kernel
theorem dX5_mix_63 : decode cX5_mix 63 = .ok (.goto 5, 3) := by decide +kernel
theorem dX5_mix_66 : decode cX5_mix 66 = .ok (.ldc 79, 2) := by decide +kernel
theorem dX5_mix_68 : decode cX5_mix 68 = .ok (.istore 9, 2) := by decide +kernel
theorem dX5_mix_70 : decode cX5_mix 70 = .ok (.iload 7, 2) := by decide +kernel
theorem dX5_mix_72 : decode cX5_mix 72 = .ok (.aload 4, 2) := by decide +kernel
theorem dX5_mix_74 : decode cX5_mix 74 = .ok (.getfield 24, 3) := by decide +kernel
theorem dX5_mix_77 : decode cX5_mix 77 = .ok (.if_icmp .ge 18, 3) := by decide +kernel
theorem dX5_mix_80 : decode cX5_mix 80 = .ok (.aload 4, 2) := by decide +kernel
theorem dX5_mix_82 : decode cX5_mix 82 = .ok (.getfield 15, 3) := by decide +kernel
theorem dX5_mix_85 : decode cX5_mix 85 = .ok (.iload 7, 2) := by decide +kernel
theorem dX5_mix_87 : decode cX5_mix 87 = .ok (.iaload, 1) := by decide +kernel
theorem dX5_mix_88 : decode cX5_mix 88 = .ok (.iload_n 3, 1) := by decide +kernel
theorem dX5_mix_89 : decode cX5_mix 89 = .ok (.invokestatic 80, 3) := by decide +kernel
theorem dX5_mix_92 : decode cX5_mix 92 = .ok (.goto 5, 3) := by decide +kernel
theorem dX5_mix_95 : decode cX5_mix 95 = .ok (.ldc 79, 2) := by decide +kernel
theorem dX5_mix_97 : decode cX5_mix 97 = .ok (.istore 10, 2) := by decide +kernel
theorem dX5_mix_99 : decode cX5_mix 99 = .ok (.iconst 0, 1) := by decide +kernel
theorem dX5_mix_100 : decode cX5_mix 100 = .ok (.istore 11, 2) := by decide +kernel
theorem dX5_mix_102 : decode cX5_mix 102 = .ok (.iload 9, 2) := by decide +kernel
theorem dX5_mix_104 : decode cX5_mix 104 = .ok (.iload 10, 2) := by decide +kernel
theorem dX5_mix_106 : decode cX5_mix 106 = .ok (.if_icmp .gt 24, 3) := by decide +kernel
theorem dX5_mix_109 : decode cX5_mix 109 = .ok (.iload 6, 2) := by decide +kernel
theorem dX5_mix_111 : decode cX5_mix 111 = .ok (.aload_n 1, 1) := by decide +kernel
theorem dX5_mix_112 : decode cX5_mix 112 = .ok (.getfield 24, 3) := by decide +kernel
theorem dX5_mix_115 : decode cX5_mix 115 = .ok (.if_icmp .ge 15, 3) := by decide +kernel
theorem dX5_mix_118 : decode cX5_mix 118 = .ok (.aload_n 1, 1) := by decide +kernel
theorem dX5_mix_119 : decode cX5_mix 119 = .ok (.getfield 21, 3) := by decide +kernel
theorem dX5_mix_122 : decode cX5_mix 122 = .ok (.iload 6, 2) := by decide +kernel
theorem dX5_mix_124 : decode cX5_mix 124 = .ok (.iaload, 1) := by decide +kernel
theorem dX5_mix_125 : decode cX5_mix 125 = .ok (.istore 11, 2) := by decide +kernel
theorem dX5_mix_127 : decode cX5_mix 127 = .ok (.iinc 6 1, 3) := by decide +kernel
theorem dX5_mix_130 : decode cX5_mix 130 = .ok (.iload 10, 2) := by decide +kernel
theorem dX5_mix_132 : decode cX5_mix 132 = .ok (.iload 9, 2) := by decide +kernel
theorem dX5_mix_134 : decode cX5_mix 134 = .ok (.if_icmp .gt 34, 3) := by decide +kernel
theorem dX5_mix_137 : decode cX5_mix 137 = .ok (.iload 7, 2) := by decide +kernel
theorem dX5_mix_139 : decode cX5_mix 139 = .ok (.aload 4, 2) := by decide +kernel
theorem dX5_mix_141 : decode cX5_mix 141 = .ok (.getfield 24, 3) := by decide +kernel
theorem dX5_mix_144 : decode cX5_mix 144 = .ok (.if_icmp .ge 24, 3) := by decide +kernel
theorem dX5_mix_147 : decode cX5_mix 147 = .ok (.aload 5, 2) := by decide +kernel
theorem dX5_mix_149 : decode cX5_mix 149 = .ok (.iload 11, 2) := by decide +kernel
theorem dX5_mix_151 : decode cX5_mix 151 = .ok (.iload_n 2, 1) := by decide +kernel
theorem dX5_mix_152 : decode cX5_mix 152 = .ok (.aload 4, 2) := by decide +kernel
theorem dX5_mix_154 : decode cX5_mix 154 = .ok (.getfield 21, 3) := by decide +kernel
theorem dX5_mix_157 : decode cX5_mix 157 = .ok (.iload 7, 2) := by decide +kernel
theorem dX5_mix_159 : decode cX5_mix 159 = .ok (.iaload, 1) := by decide +kernel
theorem dX5_mix_160 : decode cX5_mix 160 = .ok (.invokevirtual 81, 3) := by decide +kernel
theorem dX5_mix_163 : decode cX5_mix 163 = .ok (.istore 11, 2) := by decide +kernel
theorem dX5_mix_165 : decode cX5_mix 165 = .ok (.iinc 7 1, 3) := by decide +kernel
theorem dX5_mix_168 : decode cX5_mix 168 = .ok (.iload 11, 2) := by decide +kernel
theorem dX5_mix_170 : decode cX5_mix 170 = .ok (.ifCond .eq 21, 3) := by decide +kernel
theorem dX5_mix_173 : decode cX5_mix 173 = .ok (.aload_n 0, 1) := by decide +kernel
theorem dX5_mix_174 : decode cX5_mix 174 = .ok (.iload 9, 2) := by decide +kernel
theorem dX5_mix_176 : decode cX5_mix 176 = .ok (.iload 10, 2) := by decide +kernel
theorem dX5_mix_178 : decode cX5_mix 178 = .ok (.invokestatic 45, 3) := by decide +kernel
theorem dX5_mix_181 : decode cX5_mix 181 = .ok (.iload 11, 2) := by decide +kernel
theorem dX5_mix_183 : decode cX5_mix 183 = .ok (.invokevirtual 55, 3) := by decide +kernel
theorem dX5_mix_186 : decode cX5_mix 186 = .ok (.ifCond .ne 5, 3) := by decide +kernel
theorem dX5_mix_189 : decode cX5_mix 189 = .ok (.iconst 0, 1) := by decide +kernel
theorem dX5_mix_190 : decode cX5_mix 190 = .ok (.ireturn, 1) := by decide +kernel
theorem dX5_mix_191 : decode cX5_mix 191 = .ok (.iinc 8 (-1), 3) := by decide +kernel
theorem dX5_mix_194 : decode cX5_mix 194 = .ok (.goto (-171), 3) := by decide +kernel
theorem dX5_mix_197 : decode cX5_mix 197 = .ok (.iconst 1, 1) := by decide +kernel
theorem dX5_mix_198 : decode cX5_mix 198 = .ok (.ireturn, 1) := by decide +kernel
theorem dX5_add_0 : decode cX5_add 0 = .ok (.iconst 0, 1) := by decide +kernel
theorem dX5_add_1 : decode cX5_add 1 = .ok (.istore 4, 2) := by decide +kernel
theorem dX5_add_3 : decode cX5_add 3 = .ok (.iload 4, 2) := by decide +kernel
theorem dX5_add_5 : decode cX5_add 5 = .ok (.aload_n 0, 1) := by decide +kernel
theorem dX5_add_6 : decode cX5_add 6 = .ok (.getfield 24, 3) := by decide +kernel
theorem dX5_add_9 : decode cX5_add 9 = .ok (.if_icmp .ge 20, 3) := by decide +kernel
theorem dX5_add_12 : decode cX5_add 12 = .ok (.aload_n 0, 1) := by decide +kernel
theorem dX5_add_13 : decode cX5_add 13 = .ok (.getfield 15, 3) := by decide +kernel
theorem dX5_add_16 : decode cX5_add 16 = .ok (.iload 4, 2) := by decide +kernel
theorem dX5_add_18 : decode cX5_add 18 = .ok (.iaload, 1) := by decide +kernel
theorem dX5_add_19 : decode cX5_add 19 = .ok (.iload_n 1, 1) := by decide +kernel
theorem dX5_add_20 : decode cX5_add 20 = .ok (.if_icmp .ge 9, 3) := by decide +kernel
theorem dX5_add_23 : decode cX5_add 23 = .ok (.iinc 4 1, 3) := by decide +kernel
theorem dX5_add_26 : decode cX5_add 26 = .ok (.goto (-23), 3) := by decide +kernel
theorem dX5_add_29 : decode cX5_add 29 = .ok (.iload 4, 2) := by decide +kernel
theorem dX5_add_31 : decode cX5_add 31 = .ok (.aload_n 0, 1) := by decide +kernel
theorem dX5_add_32 : decode cX5_add 32 = .ok (.getfield 24, 3) := by decide +kernel
theorem dX5_add_35 : decode cX5_add 35 = .ok (.if_icmp .ge 37, 3) := by decide +kernel
theorem dX5_add_38 : decode cX5_add 38 = .ok (.aload_n 0, 1) := by decide +kernel
theorem dX5_add_39 : decode cX5_add 39 = .ok (.getfield 15, 3) := by decide +kernel
theorem dX5_add_42 : decode cX5_add 42 = .ok (.iload 4, 2) := by decide +kernel
theorem dX5_add_44 : decode cX5_add 44 = .ok (.iaload, 1) := by decide +kernel
theorem dX5_add_45 : decode cX5_add 45 = .ok (.iload_n 1, 1) := by decide +kernel
theorem dX5_add_46 : decode cX5_add 46 = .ok (.if_icmp .ne 26, 3) := by decide +kernel
theorem dX5_add_49 : decode cX5_add 49 = .ok (.aload_n 0, 1) := by decide +kernel
theorem dX5_add_50 : decode cX5_add 50 = .ok (.getfield 21, 3) := by decide +kernel
theorem dX5_add_53 : decode cX5_add 53 = .ok (.iload 4, 2) := by decide +kernel
theorem dX5_add_55 : decode cX5_add 55 = .ok (.aload_n 3, 1) := by decide +kernel
theorem dX5_add_56 : decode cX5_add 56 = .ok (.aload_n 0, 1) := by decide +kernel
theorem dX5_add_57 : decode cX5_add 57 = .ok (.getfield 21, 3) := by decide +kernel
theorem dX5_add_60 : decode cX5_add 60 = .ok (.iload 4, 2) := by decide +kernel
theorem dX5_add_62 : decode cX5_add 62 = .ok (.iaload, 1) := by decide +kernel
theorem dX5_add_63 : decode cX5_add 63 = .ok (.iconst 1, 1) := by decide +kernel
theorem dX5_add_64 : decode cX5_add 64 = .ok (.iload_n 2, 1) := by decide +kernel
theorem dX5_add_65 : decode cX5_add 65 = .ok (.invokevirtual 81, 3) := by decide +kernel
theorem dX5_add_68 : decode cX5_add 68 = .ok (.iastore, 1) := by decide +kernel
theorem dX5_add_69 : decode cX5_add 69 = .ok (.goto 11, 3) := by decide +kernel
theorem dX5_add_72 : decode cX5_add 72 = .ok (.aload_n 0, 1) := by decide +kernel
theorem dX5_add_73 : decode cX5_add 73 = .ok (.iload 4, 2) := by decide +kernel
theorem dX5_add_75 : decode cX5_add 75 = .ok (.iload_n 1, 1) := by decide +kernel
theorem dX5_add_76 : decode cX5_add 76 = .ok (.iload_n 2, 1) := by decide +kernel
theorem dX5_add_77 : decode cX5_add 77 = .ok (.invokevirtual 85, 3) := by decide +kernel
theorem dX5_add_80 : decode cX5_add 80 = .ok (.return_, 1) := by decide +kernel
theorem dX5_dropZeros_0 : decode cX5_dropZeros 0 = .ok (.iconst 0, 1) := by decide +kernel
theorem dX5_dropZeros_1 : decode cX5_dropZeros 1 = .ok (.istore_n 1, 1) := by decide +kernel
theorem dX5_dropZeros_2 : decode cX5_dropZeros 2 = .ok (.iconst 0, 1) := by decide +kernel
theorem dX5_dropZeros_3 : decode cX5_dropZeros 3 = .ok (.istore_n 2, 1) := by decide +kernel
theorem dX5_dropZeros_4 : decode cX5_dropZeros 4 = .ok (.iload_n 2, 1) := by decide +kernel
theorem dX5_dropZeros_5 : decode cX5_dropZeros 5 = .ok (.aload_n 0, 1) := by decide +kernel
theorem dX5_dropZeros_6 : decode cX5_dropZeros 6 = .ok (.getfield 24, 3) := by decide +kernel
theorem dX5_dropZeros_9 : decode cX5_dropZeros 9 = .ok (.if_icmp .ge 45, 3) := by decide +kernel
theorem dX5_dropZeros_12 : decode cX5_dropZeros 12 = .ok (.aload_n 0, 1) := by decide +kernel
theorem dX5_dropZeros_13 : decode cX5_dropZeros 13 = .ok (.getfield 21, 3) := by decide +kernel
theorem dX5_dropZeros_16 : decode cX5_dropZeros 16 = .ok (.iload_n 2, 1) := by decide +kernel
theorem dX5_dropZeros_17 : decode cX5_dropZeros 17 = .ok (.iaload, 1) := by decide +kernel
theorem dX5_dropZeros_18 : decode cX5_dropZeros 18 = .ok (.ifCond .eq 30, 3) := by decide +kernel
theorem dX5_dropZeros_21 : decode cX5_dropZeros 21 = .ok (.aload_n 0, 1) := by decide +kernel
theorem dX5_dropZeros_22 : decode cX5_dropZeros 22 = .ok (.getfield 15, 3) := by decide +kernel
theorem dX5_dropZeros_25 : decode cX5_dropZeros 25 = .ok (.iload_n 1, 1) := by decide +kernel
theorem dX5_dropZeros_26 : decode cX5_dropZeros 26 = .ok (.aload_n 0, 1) := by decide +kernel
theorem dX5_dropZeros_27 : decode cX5_dropZeros 27 = .ok (.getfield 15, 3) := by decide +kernel
theorem dX5_dropZeros_30 : decode cX5_dropZeros 30 = .ok (.iload_n 2, 1) := by decide +kernel
theorem dX5_dropZeros_31 : decode cX5_dropZeros 31 = .ok (.iaload, 1) := by decide +kernel
theorem dX5_dropZeros_32 : decode cX5_dropZeros 32 = .ok (.iastore, 1) := by decide +kernel
theorem dX5_dropZeros_33 : decode cX5_dropZeros 33 = .ok (.aload_n 0, 1) := by decide +kernel
theorem dX5_dropZeros_34 : decode cX5_dropZeros 34 = .ok (.getfield 21, 3) := by decide +kernel
theorem dX5_dropZeros_37 : decode cX5_dropZeros 37 = .ok (.iload_n 1, 1) := by decide +kernel
theorem dX5_dropZeros_38 : decode cX5_dropZeros 38 = .ok (.aload_n 0, 1) := by decide +kernel
theorem dX5_dropZeros_39 : decode cX5_dropZeros 39 = .ok (.getfield 21, 3) := by decide +kernel
theorem dX5_dropZeros_42 : decode cX5_dropZeros 42 = .ok (.iload_n 2, 1) := by decide +kernel
theorem dX5_dropZeros_43 : decode cX5_dropZeros 43 = .ok (.iaload, 1) := by decide +kernel
theorem dX5_dropZeros_44 : decode cX5_dropZeros 44 = .ok (.iastore, 1) := by decide +kernel
theorem dX5_dropZeros_45 : decode cX5_dropZeros 45 = .ok (.iinc 1 1, 3) := by decide +kernel
theorem dX5_dropZeros_48 : decode cX5_dropZeros 48 = .ok (.iinc 2 1, 3) := by decide +kernel
theorem dX5_dropZeros_51 : decode cX5_dropZeros 51 = .ok (.goto (-47), 3) := by decide +kernel
theorem dX5_dropZeros_54 : decode cX5_dropZeros 54 = .ok (.aload_n 0, 1) := by decide +kernel
theorem dX5_dropZeros_55 : decode cX5_dropZeros 55 = .ok (.iload_n 1, 1) := by decide +kernel
theorem dX5_dropZeros_56 : decode cX5_dropZeros 56 = .ok (.putfield 24, 3) := by decide +kernel
theorem dX5_dropZeros_59 : decode cX5_dropZeros 59 = .ok (.return_, 1) := by decide +kernel
theorem dX5_reorder_0 : decode cX5_reorder 0 = .ok (.aload_n 0, 1) := by decide +kernel
theorem dX5_reorder_1 : decode cX5_reorder 1 = .ok (.getfield 24, 3) := by decide +kernel
theorem dX5_reorder_4 : decode cX5_reorder 4 = .ok (.istore_n 2, 1) := by decide +kernel
theorem dX5_reorder_5 : decode cX5_reorder 5 = .ok (.aload_n 0, 1) := by decide +kernel
theorem dX5_reorder_6 : decode cX5_reorder 6 = .ok (.iconst 0, 1) := by decide +kernel
theorem dX5_reorder_7 : decode cX5_reorder 7 = .ok (.putfield 24, 3) := by decide +kernel
theorem dX5_reorder_10 : decode cX5_reorder 10 = .ok (.iconst 0, 1) := by decide +kernel
theorem dX5_reorder_11 : decode cX5_reorder 11 = .ok (.istore_n 3, 1) := by decide +kernel
theorem dX5_reorder_12 : decode cX5_reorder 12 = .ok (.iload_n 3, 1) := by decide +kernel
theorem dX5_reorder_13 : decode cX5_reorder 13 = .ok (.iload_n 2, 1) := by decide +kernel
theorem dX5_reorder_14 : decode cX5_reorder 14 = .ok (.if_icmp .ge 65, 3) := by decide +kernel
theorem dX5_reorder_17 : decode cX5_reorder 17 = .ok (.aload_n 0, 1) := by decide +kernel
theorem dX5_reorder_18 : decode cX5_reorder 18 = .ok (.getfield 15, 3) := by decide +kernel
theorem dX5_reorder_21 : decode cX5_reorder 21 = .ok (.iload_n 3, 1) := by decide +kernel
theorem dX5_reorder_22 : decode cX5_reorder 22 = .ok (.iaload, 1) := by decide +kernel
theorem dX5_reorder_23 : decode cX5_reorder 23 = .ok (.istore 4, 2) := by decide +kernel
theorem dX5_reorder_25 : decode cX5_reorder 25 = .ok (.iload 4, 2) := by decide +kernel
theorem dX5_reorder_27 : decode cX5_reorder 27 = .ok (.iconst 0, 1) := by decide +kernel
theorem dX5_reorder_28 : decode cX5_reorder 28 = .ok (.invokestatic 68, 3) := by decide +kernel
theorem dX5_reorder_31 : decode cX5_reorder 31 = .ok (.istore 5, 2) := by decide +kernel
theorem dX5_reorder_33 : decode cX5_reorder 33 = .ok (.iload 4, 2) := by decide +kernel
theorem dX5_reorder_35 : decode cX5_reorder 35 = .ok (.iconst 1, 1) := by decide +kernel
theorem dX5_reorder_36 : decode cX5_reorder 36 = .ok (.invokestatic 68, 3) := by decide +kernel
theorem dX5_reorder_39 : decode cX5_reorder 39 = .ok (.istore 6, 2) := by decide +kernel
theorem dX5_reorder_41 : decode cX5_reorder 41 = .ok (.iload 4, 2) := by decide +kernel
theorem dX5_reorder_43 : decode cX5_reorder 43 = .ok (.iconst 2, 1) := by decide +kernel
theorem dX5_reorder_44 : decode cX5_reorder 44 = .ok (.invokestatic 68, 3) := by decide +kernel
theorem dX5_reorder_47 : decode cX5_reorder 47 = .ok (.istore 7, 2) := by decide +kernel
theorem dX5_reorder_49 : decode cX5_reorder 49 = .ok (.aload_n 0, 1) := by decide +kernel
theorem dX5_reorder_50 : decode cX5_reorder 50 = .ok (.aload_n 1, 1) := by decide +kernel
theorem dX5_reorder_51 : decode cX5_reorder 51 = .ok (.iload 5, 2) := by decide +kernel
theorem dX5_reorder_53 : decode cX5_reorder 53 = .ok (.iload 6, 2) := by decide +kernel
theorem dX5_reorder_55 : decode cX5_reorder 55 = .ok (.iload 7, 2) := by decide +kernel
theorem dX5_reorder_57 : decode cX5_reorder 57 = .ok (.invokevirtual 89, 3) := by decide +kernel
theorem dX5_reorder_60 : decode cX5_reorder 60 = .ok (.aload_n 0, 1) := by decide +kernel
theorem dX5_reorder_61 : decode cX5_reorder 61 = .ok (.getfield 21, 3) := by decide +kernel
theorem dX5_reorder_64 : decode cX5_reorder 64 = .ok (.iload_n 3, 1) := by decide +kernel
theorem dX5_reorder_65 : decode cX5_reorder 65 = .ok (.iaload, 1) := by decide +kernel
theorem dX5_reorder_66 : decode cX5_reorder 66 = .ok (.aload_n 1, 1) := by decide +kernel
theorem dX5_reorder_67 : decode cX5_reorder 67 = .ok (.getfield 64, 3) := by decide +kernel
theorem dX5_reorder_70 : decode cX5_reorder 70 = .ok (.invokevirtual 92, 3) := by decide +kernel
theorem dX5_reorder_73 : decode cX5_reorder 73 = .ok (.iinc 3 1, 3) := by decide +kernel
theorem dX5_reorder_76 : decode cX5_reorder 76 = .ok (.goto (-64), 3) := by decide +kernel
theorem dX5_reorder_79 : decode cX5_reorder 79 = .ok (.return_, 1) := by decide +kernel
theorem dX5_insert_0 : decode cX5_insert 0 = .ok (.aload_n 0, 1) := by decide +kernel
theorem dX5_insert_1 : decode cX5_insert 1 = .ok (.getfield 24, 3) := by decide +kernel
theorem dX5_insert_4 : decode cX5_insert 4 = .ok (.aload_n 0, 1) := by decide +kernel
theorem dX5_insert_5 : decode cX5_insert 5 = .ok (.getfield 15, 3) := by decide +kernel
theorem dX5_insert_8 : decode cX5_insert 8 = .ok (.arraylength, 1) := by decide +kernel
theorem dX5_insert_9 : decode cX5_insert 9 = .ok (.if_icmp .lt 4, 3) := by decide +kernel
theorem dX5_insert_12 : decode cX5_insert 12 = .ok (.return_, 1) := by decide +kernel
theorem dX5_insert_13 : decode cX5_insert 13 = .ok (.aload_n 0, 1) := by decide +kernel
theorem dX5_insert_14 : decode cX5_insert 14 = .ok (.getfield 24, 3) := by decide +kernel
theorem dX5_insert_17 : decode cX5_insert 17 = .ok (.istore 4, 2) := by decide +kernel
theorem dX5_insert_19 : decode cX5_insert 19 = .ok (.iload 4, 2) := by decide +kernel
theorem dX5_insert_21 : decode cX5_insert 21 = .ok (.iload_n 1, 1) := by decide +kernel
theorem dX5_insert_22 : decode cX5_insert 22 = .ok (.if_icmp .le 46, 3) := by decide +kernel
theorem dX5_insert_25 : decode cX5_insert 25 = .ok (.iload 4, 2) := by decide +kernel
theorem dX5_insert_27 : decode cX5_insert 27 = .ok (.ifCond .le 41, 3) := by decide +kernel
theorem dX5_insert_30 : decode cX5_insert 30 = .ok (.aload_n 0, 1) := by decide +kernel
theorem dX5_insert_31 : decode cX5_insert 31 = .ok (.getfield 15, 3) := by decide +kernel
theorem dX5_insert_34 : decode cX5_insert 34 = .ok (.iload 4, 2) := by decide +kernel
theorem dX5_insert_36 : decode cX5_insert 36 = .ok (.aload_n 0, 1) := by decide +kernel
theorem dX5_insert_37 : decode cX5_insert 37 = .ok (.getfield 15, 3) := by decide +kernel
theorem dX5_insert_40 : decode cX5_insert 40 = .ok (.iload 4, 2) := by decide +kernel
theorem dX5_insert_42 : decode cX5_insert 42 = .ok (.iconst 1, 1) := by decide +kernel
theorem dX5_insert_43 : decode cX5_insert 43 = .ok (.isub, 1) := by decide +kernel
theorem dX5_insert_44 : decode cX5_insert 44 = .ok (.iaload, 1) := by decide +kernel
theorem dX5_insert_45 : decode cX5_insert 45 = .ok (.iastore, 1) := by decide +kernel
theorem dX5_insert_46 : decode cX5_insert 46 = .ok (.aload_n 0, 1) := by decide +kernel
theorem dX5_insert_47 : decode cX5_insert 47 = .ok (.getfield 21, 3) := by decide +kernel
theorem dX5_insert_50 : decode cX5_insert 50 = .ok (.iload 4, 2) := by decide +kernel
theorem dX5_insert_52 : decode cX5_insert 52 = .ok (.aload_n 0, 1) := by decide +kernel
theorem dX5_insert_53 : decode cX5_insert 53 = .ok (.getfield 21, 3) := by decide +kernel
theorem dX5_insert_56 : decode cX5_insert 56 = .ok (.iload 4, 2) := by decide +kernel
theorem dX5_insert_58 : decode cX5_insert 58 = .ok (.iconst 1, 1) := by decide +kernel
theorem dX5_insert_59 : decode cX5_insert 59 = .ok (.isub, 1) := by decide +kernel
theorem dX5_insert_60 : decode cX5_insert 60 = .ok (.iaload, 1) := by decide +kernel
theorem dX5_insert_61 : decode cX5_insert 61 = .ok (.iastore, 1) := by decide +kernel
theorem dX5_insert_62 : decode cX5_insert 62 = .ok (.iinc 4 (-1), 3) := by decide +kernel
theorem dX5_insert_65 : decode cX5_insert 65 = .ok (.goto (-46), 3) := by decide +kernel
theorem dX5_insert_68 : decode cX5_insert 68 = .ok (.iload_n 1, 1) := by decide +kernel
theorem dX5_insert_69 : decode cX5_insert 69 = .ok (.ifCond .lt 35, 3) := by decide +kernel
theorem dX5_insert_72 : decode cX5_insert 72 = .ok (.iload_n 1, 1) := by decide +kernel
theorem dX5_insert_73 : decode cX5_insert 73 = .ok (.aload_n 0, 1) := by decide +kernel
theorem dX5_insert_74 : decode cX5_insert 74 = .ok (.getfield 24, 3) := by decide +kernel
theorem dX5_insert_77 : decode cX5_insert 77 = .ok (.if_icmp .gt 27, 3) := by decide +kernel
theorem dX5_insert_80 : decode cX5_insert 80 = .ok (.aload_n 0, 1) := by decide +kernel
theorem dX5_insert_81 : decode cX5_insert 81 = .ok (.getfield 15, 3) := by decide +kernel
theorem dX5_insert_84 : decode cX5_insert 84 = .ok (.iload_n 1, 1) := by decide +kernel
theorem dX5_insert_85 : decode cX5_insert 85 = .ok (.iload_n 2, 1) := by decide +kernel
theorem dX5_insert_86 : decode cX5_insert 86 = .ok (.iastore, 1) := by decide +kernel
theorem dX5_insert_87 : decode cX5_insert 87 = .ok (.aload_n 0, 1) := by decide +kernel
theorem dX5_insert_88 : decode cX5_insert 88 = .ok (.getfield 21, 3) := by decide +kernel
theorem dX5_insert_91 : decode cX5_insert 91 = .ok (.iload_n 1, 1) := by decide +kernel
theorem dX5_insert_92 : decode cX5_insert 92 = .ok (.iload_n 3, 1) := by decide +kernel
theorem dX5_insert_93 : decode cX5_insert 93 = .ok (.iastore, 1) := by decide +kernel
theorem dX5_insert_94 : decode cX5_insert 94 = .ok (.aload_n 0, 1) := by decide +kernel
theorem dX5_insert_95 : decode cX5_insert 95 = .ok (.dup, 1) := by decide +kernel
theorem dX5_insert_96 : decode cX5_insert 96 = .ok (.getfield 24, 3) := by decide +kernel
theorem dX5_insert_99 : decode cX5_insert 99 = .ok (.iconst 1, 1) := by decide +kernel
theorem dX5_insert_100 : decode cX5_insert 100 = .ok (.iadd, 1) := by decide +kernel
theorem dX5_insert_101 : decode cX5_insert 101 = .ok (.putfield 24, 3) := by decide +kernel
theorem dX5_insert_104 : decode cX5_insert 104 = .ok (.return_, 1) := by decide +kernel
