theorem dX7_init_0 : decode cX7_init 0 = .ok (.aload_n 0, 1) := by decide +kernel
theorem dX7_init_1 : decode cX7_init 1 = .ok (.invokespecial 3, 3) := by decide +kernel
theorem dX7_init_4 : decode cX7_init 4 = .ok (.aload_n 0, 1) := by decide +kernel
theorem dX7_init_5 : decode cX7_init 5 = .ok (.sipush 200, 3) := by decide +kernel
theorem dX7_init_8 : decode cX7_init 8 = .ok (.newarray .int, 2) := by decide +kernel
theorem dX7_init_10 : decode cX7_init 10 = .ok (.putfield 9, 3) := by decide +kernel
theorem dX7_init_13 : decode cX7_init 13 = .ok (.aload_n 0, 1) := by decide +kernel
theorem dX7_init_14 : decode cX7_init 14 = .ok (.iconst (-1), 1) := by decide +kernel
theorem dX7_init_15 : decode cX7_init 15 = .ok (.putfield 15, 3) := by decide +kernel
theorem dX7_init_18 : decode cX7_init 18 = .ok (.aload_n 0, 1) := by decide +kernel
theorem dX7_init_19 : decode cX7_init 19 = .ok (.new 19, 3) := by decide +kernel
theorem dX7_init_22 : decode cX7_init 22 = .ok (.dup, 1) := by decide +kernel
theorem dX7_init_23 : decode cX7_init 23 = .ok (.bipush 101, 2) := by decide +kernel
theorem dX7_init_25 : decode cX7_init 25 = .ok (.invokespecial 21, 3) := by decide +kernel
theorem dX7_init_28 : decode cX7_init 28 = .ok (.putfield 24, 3) := by decide +kernel
theorem dX7_init_31 : decode cX7_init 31 = .ok (.aload_n 0, 1) := by decide +kernel
theorem dX7_init_32 : decode cX7_init 32 = .ok (.iconst 3, 1) := by decide +kernel
theorem dX7_init_33 : decode cX7_init 33 = .ok (.newarray .int, 2) := by decide +kernel
theorem dX7_init_35 : decode cX7_init 35 = .ok (.putfield 28, 3) := by decide +kernel
theorem dX7_init_38 : decode cX7_init 38 = .ok (.return_, 1) := by decide +kernel
theorem dX7_take_0 : decode cX7_take 0 = .ok (.bipush 24, 2) := by decide +kernel
theorem dX7_take_2 : decode cX7_take 2 = .ok (.istore_n 2, 1) := by decide +kernel
theorem dX7_take_3 : decode cX7_take 3 = .ok (.iload_n 2, 1) := by decide +kernel
theorem dX7_take_4 : decode cX7_take 4 = .ok (.ifCond .lt 45, 3) := by decide +kernel
theorem dX7_take_7 : decode cX7_take 7 = .ok (.aload_n 0, 1) := by decide +kernel
theorem dX7_take_8 : decode cX7_take 8 = .ok (.getfield 31, 3) := by decide +kernel
theorem dX7_take_11 : decode cX7_take 11 = .ok (.sipush 200, 3) := by decide +kernel
theorem dX7_take_14 : decode cX7_take 14 = .ok (.if_icmp .ge 35, 3) := by decide +kernel
theorem dX7_take_17 : decode cX7_take 17 = .ok (.aload_n 0, 1) := by decide +kernel
theorem dX7_take_18 : decode cX7_take 18 = .ok (.getfield 9, 3) := by decide +kernel
theorem dX7_take_21 : decode cX7_take 21 = .ok (.aload_n 0, 1) := by decide +kernel
theorem dX7_take_22 : decode cX7_take 22 = .ok (.getfield 31, 3) := by decide +kernel
theorem dX7_take_25 : decode cX7_take 25 = .ok (.iload_n 1, 1) := by decide +kernel
theorem dX7_take_26 : decode cX7_take 26 = .ok (.iload_n 2, 1) := by decide +kernel
theorem dX7_take_27 : decode cX7_take 27 = .ok (.iushr, 1) := by decide +kernel
theorem dX7_take_28 : decode cX7_take 28 = .ok (.sipush 255, 3) := by decide +kernel
theorem dX7_take_31 : decode cX7_take 31 = .ok (.iand, 1) := by decide +kernel
theorem dX7_take_32 : decode cX7_take 32 = .ok (.iastore, 1) := by decide +kernel
theorem dX7_take_33 : decode cX7_take 33 = .ok (.aload_n 0, 1) := by decide +kernel
theorem dX7_take_34 : decode cX7_take 34 = .ok (.dup, 1) := by decide +kernel
theorem dX7_take_35 : decode cX7_take 35 = .ok (.getfield 31, 3) := by decide +kernel
theorem dX7_take_38 : decode cX7_take 38 = .ok (.iconst 1, 1) := by decide +kernel
theorem dX7_take_39 : decode cX7_take 39 = .ok (.iadd, 1) := by decide +kernel
theorem dX7_take_40 : decode cX7_take 40 = .ok (.putfield 31, 3) := by decide +kernel
theorem dX7_take_43 : decode cX7_take 43 = .ok (.iinc 2 (-8), 3) := by decide +kernel
theorem dX7_take_46 : decode cX7_take 46 = .ok (.goto (-43), 3) := by decide +kernel
theorem dX7_take_49 : decode cX7_take 49 = .ok (.return_, 1) := by decide +kernel
theorem dX7_clearFault_0 : decode cX7_clearFault 0 = .ok (.aload_n 0, 1) := by decide +kernel
theorem dX7_clearFault_1 : decode cX7_clearFault 1 = .ok (.iconst 0, 1) := by decide +kernel
theorem dX7_clearFault_2 : decode cX7_clearFault 2 = .ok (.putfield 34, 3) := by decide +kernel
theorem dX7_clearFault_5 : decode cX7_clearFault 5 = .ok (.aload_n 0, 1) := by decide +kernel
theorem dX7_clearFault_6 : decode cX7_clearFault 6 = .ok (.iconst (-1), 1) := by decide +kernel
theorem dX7_clearFault_7 : decode cX7_clearFault 7 = .ok (.putfield 15, 3) := by decide +kernel
theorem dX7_clearFault_10 : decode cX7_clearFault 10 = .ok (.return_, 1) := by decide +kernel
theorem dX7_read_0 : decode cX7_read 0 = .ok (.aload_n 0, 1) := by decide +kernel
theorem dX7_read_1 : decode cX7_read 1 = .ok (.iconst 0, 1) := by decide +kernel
theorem dX7_read_2 : decode cX7_read 2 = .ok (.putfield 37, 3) := by decide +kernel
theorem dX7_read_5 : decode cX7_read 5 = .ok (.aload_n 0, 1) := by decide +kernel
theorem dX7_read_6 : decode cX7_read 6 = .ok (.getfield 24, 3) := by decide +kernel
theorem dX7_read_9 : decode cX7_read 9 = .ok (.invokevirtual 40, 3) := by decide +kernel
theorem dX7_read_12 : decode cX7_read 12 = .ok (.aload_n 0, 1) := by decide +kernel
theorem dX7_read_13 : decode cX7_read 13 = .ok (.invokevirtual 43, 3) := by decide +kernel
theorem dX7_read_16 : decode cX7_read 16 = .ok (.bipush 45, 2) := by decide +kernel
theorem dX7_read_18 : decode cX7_read 18 = .ok (.if_icmp .ne 8, 3) := by decide +kernel
theorem dX7_read_21 : decode cX7_read 21 = .ok (.bipush 45, 2) := by decide +kernel
theorem dX7_read_23 : decode cX7_read 23 = .ok (.goto 5, 3) := by decide +kernel
theorem dX7_read_26 : decode cX7_read 26 = .ok (.bipush 43, 2) := by decide +kernel
theorem dX7_read_28 : decode cX7_read 28 = .ok (.istore_n 2, 1) := by decide +kernel
theorem dX7_read_29 : decode cX7_read 29 = .ok (.iload_n 2, 1) := by decide +kernel
theorem dX7_read_30 : decode cX7_read 30 = .ok (.bipush 45, 2) := by decide +kernel
theorem dX7_read_32 : decode cX7_read 32 = .ok (.if_icmp .ne 13, 3) := by decide +kernel
theorem dX7_read_35 : decode cX7_read 35 = .ok (.aload_n 0, 1) := by decide +kernel
theorem dX7_read_36 : decode cX7_read 36 = .ok (.dup, 1) := by decide +kernel
theorem dX7_read_37 : decode cX7_read 37 = .ok (.getfield 37, 3) := by decide +kernel
theorem dX7_read_40 : decode cX7_read 40 = .ok (.iconst 1, 1) := by decide +kernel
theorem dX7_read_41 : decode cX7_read 41 = .ok (.iadd, 1) := by decide +kernel
theorem dX7_read_42 : decode cX7_read 42 = .ok (.putfield 37, 3) := by decide +kernel
theorem dX7_read_45 : decode cX7_read 45 = .ok (.iconst 0, 1) := by decide +kernel
theorem dX7_read_46 : decode cX7_read 46 = .ok (.istore_n 3, 1) := by decide +kernel
theorem dX7_read_47 : decode cX7_read 47 = .ok (.iload_n 3, 1) := by decide +kernel
theorem dX7_read_48 : decode cX7_read 48 = .ok (.bipush 101, 2) := by decide +kernel
theorem dX7_read_50 : decode cX7_read 50 = .ok (.if_icmp .ge 81, 3) := by decide +kernel
theorem dX7_read_53 : decode cX7_read 53 = .ok (.aload_n 0, 1) := by decide +kernel
theorem dX7_read_54 : decode cX7_read 54 = .ok (.getfield 34, 3) := by decide +kernel
theorem dX7_read_57 : decode cX7_read 57 = .ok (.ifCond .ne 74, 3) := by decide +kernel
theorem dX7_read_60 : decode cX7_read 60 = .ok (.iload_n 2, 1) := by decide +kernel
theorem dX7_read_61 : decode cX7_read 61 = .ok (.iconst (-1), 1) := by decide +kernel
theorem dX7_read_62 : decode cX7_read 62 = .ok (.if_icmp .eq 69, 3) := by decide +kernel
theorem dX7_read_65 : decode cX7_read 65 = .ok (.aload_n 0, 1) := by decide +kernel
theorem dX7_read_66 : decode cX7_read 66 = .ok (.iload_n 2, 1) := by decide +kernel
theorem dX7_read_67 : decode cX7_read 67 = .ok (.bipush 45, 2) := by decide +kernel
theorem dX7_read_69 : decode cX7_read 69 = .ok (.if_icmp .ne 7, 3) := by decide +kernel
theorem dX7_read_72 : decode cX7_read 72 = .ok (.iconst 1, 1) := by decide +kernel
theorem dX7_read_73 : decode cX7_read 73 = .ok (.goto 4, 3) := by decide +kernel
theorem dX7_read_76 : decode cX7_read 76 = .ok (.iconst 0, 1) := by decide +kernel
theorem dX7_read_77 : decode cX7_read 77 = .ok (.aload_n 1, 1) := by decide +kernel
theorem dX7_read_78 : decode cX7_read 78 = .ok (.invokevirtual 47, 3) := by decide +kernel
theorem dX7_read_81 : decode cX7_read 81 = .ok (.aload_n 0, 1) := by decide +kernel
theorem dX7_read_82 : decode cX7_read 82 = .ok (.invokevirtual 43, 3) := by decide +kernel
theorem dX7_read_85 : decode cX7_read 85 = .ok (.istore_n 2, 1) := by decide +kernel
theorem dX7_read_86 : decode cX7_read 86 = .ok (.iload_n 2, 1) := by decide +kernel
theorem dX7_read_87 : decode cX7_read 87 = .ok (.bipush 43, 2) := by decide +kernel
theorem dX7_read_89 : decode cX7_read 89 = .ok (.if_icmp .eq 9, 3) := by decide +kernel
theorem dX7_read_92 : decode cX7_read 92 = .ok (.iload_n 2, 1) := by decide +kernel
theorem dX7_read_93 : decode cX7_read 93 = .ok (.bipush 45, 2) := by decide +kernel
theorem dX7_read_95 : decode cX7_read 95 = .ok (.if_icmp .ne 16, 3) := by decide +kernel
theorem dX7_read_98 : decode cX7_read 98 = .ok (.aload_n 0, 1) := by decide +kernel
theorem dX7_read_99 : decode cX7_read 99 = .ok (.dup, 1) := by decide +kernel
theorem dX7_read_100 : decode cX7_read 100 = .ok (.getfield 37, 3) := by decide +kernel
theorem dX7_read_103 : decode cX7_read 103 = .ok (.iconst 1, 1) := by decide +kernel
theorem dX7_read_104 : decode cX7_read 104 = .ok (.iadd, 1) := by decide +kernel
theorem dX7_read_105 : decode cX7_read 105 = .ok (.putfield 37, 3) := by decide +kernel
theorem dX7_read_108 : decode cX7_read 108 = .ok (.goto 17, 3) := by decide +kernel
theorem dX7_read_111 : decode cX7_read 111 = .ok (.iload_n 2, 1) := by decide +kernel
theorem dX7_read_112 : decode cX7_read 112 = .ok (.iconst (-1), 1) := by decide +kernel
theorem dX7_read_113 : decode cX7_read 113 = .ok (.if_icmp .eq 12, 3) := by decide +kernel
theorem dX7_read_116 : decode cX7_read 116 = .ok (.aload_n 0, 1) := by decide +kernel
theorem dX7_read_117 : decode cX7_read 117 = .ok (.iconst 1, 1) := by decide +kernel
theorem dX7_read_118 : decode cX7_read 118 = .ok (.aload_n 0, 1) := by decide +kernel
theorem dX7_read_119 : decode cX7_read 119 = .ok (.getfield 37, 3) := by decide +kernel
theorem dX7_read_122 : decode cX7_read 122 = .ok (.invokevirtual 51, 3) := by decide +kernel
theorem dX7_read_125 : decode cX7_read 125 = .ok (.iinc 3 1, 3) := by decide +kernel
theorem dX7_read_128 : decode cX7_read 128 = .ok (.goto (-81), 3) := by decide +kernel
theorem dX7_read_131 : decode cX7_read 131 = .ok (.aload_n 0, 1) := by decide +kernel
theorem dX7_read_132 : decode cX7_read 132 = .ok (.getfield 24, 3) := by decide +kernel
theorem dX7_read_135 : decode cX7_read 135 = .ok (.invokevirtual 55, 3) := by decide +kernel
theorem dX7_read_138 : decode cX7_read 138 = .ok (.aload_n 0, 1) := by decide +kernel
theorem dX7_read_139 : decode cX7_read 139 = .ok (.getfield 24, 3) := by decide +kernel
theorem dX7_read_142 : decode cX7_read 142 = .ok (.getfield 58, 3) := by decide +kernel
theorem dX7_read_145 : decode cX7_read 145 = .ok (.bipush 60, 2) := by decide +kernel
theorem dX7_read_147 : decode cX7_read 147 = .ok (.if_icmp .le 12, 3) := by decide +kernel
theorem dX7_read_150 : decode cX7_read 150 = .ok (.aload_n 0, 1) := by decide +kernel
theorem dX7_read_151 : decode cX7_read 151 = .ok (.iconst 3, 1) := by decide +kernel
theorem dX7_read_152 : decode cX7_read 152 = .ok (.aload_n 0, 1) := by decide +kernel
theorem dX7_read_153 : decode cX7_read 153 = .ok (.getfield 31, 3) := by decide +kernel
theorem dX7_read_156 : decode cX7_read 156 = .ok (.invokevirtual 51, 3) := by decide +kernel
theorem dX7_read_159 : decode cX7_read 159 = .ok (.return_, 1) := by decide +kernel
theorem dX7_readSummand_0 : decode cX7_readSummand 0 = .ok (.aload_n 0, 1) := by decide +kernel
theorem dX7_readSummand_1 : decode cX7_readSummand 1 = .ok (.iconst 1, 1) := by decide +kernel
theorem dX7_readSummand_2 : decode cX7_readSummand 2 = .ok (.putfield 59, 3) := by decide +kernel
theorem dX7_readSummand_5 : decode cX7_readSummand 5 = .ok (.aload_n 0, 1) := by decide +kernel
theorem dX7_readSummand_6 : decode cX7_readSummand 6 = .ok (.getfield 28, 3) := by decide +kernel
theorem dX7_readSummand_9 : decode cX7_readSummand 9 = .ok (.iconst 0, 1) := by decide +kernel
theorem dX7_readSummand_10 : decode cX7_readSummand 10 = .ok (.invokestatic 62, 3) := by decide +kernel
theorem dX7_readSummand_13 : decode cX7_readSummand 13 = .ok (.aload_n 0, 1) := by decide +kernel
theorem dX7_readSummand_14 : decode cX7_readSummand 14 = .ok (.aload_n 2, 1) := by decide +kernel
theorem dX7_readSummand_15 : decode cX7_readSummand 15 = .ok (.invokevirtual 68, 3) := by decide +kernel
theorem dX7_readSummand_18 : decode cX7_readSummand 18 = .ok (.ifCond .ne 12, 3) := by decide +kernel
theorem dX7_readSummand_21 : decode cX7_readSummand 21 = .ok (.aload_n 0, 1) := by decide +kernel
theorem dX7_readSummand_22 : decode cX7_readSummand 22 = .ok (.iconst 1, 1) := by decide +kernel
theorem dX7_readSummand_23 : decode cX7_readSummand 23 = .ok (.aload_n 0, 1) := by decide +kernel
theorem dX7_readSummand_24 : decode cX7_readSummand 24 = .ok (.getfield 37, 3) := by decide +kernel
theorem dX7_readSummand_27 : decode cX7_readSummand 27 = .ok (.invokevirtual 51, 3) := by decide +kernel
theorem dX7_readSummand_30 : decode cX7_readSummand 30 = .ok (.iconst 0, 1) := by decide +kernel
theorem dX7_readSummand_31 : decode cX7_readSummand 31 = .ok (.istore_n 3, 1) := by decide +kernel
theorem dX7_readSummand_32 : decode cX7_readSummand 32 = .ok (.iload_n 3, 1) := by decide +kernel
theorem dX7_readSummand_33 : decode cX7_readSummand 33 = .ok (.sipush 200, 3) := by decide +kernel
theorem dX7_readSummand_36 : decode cX7_readSummand 36 = .ok (.if_icmp .ge 29, 3) := by decide +kernel
theorem dX7_readSummand_39 : decode cX7_readSummand 39 = .ok (.aload_n 0, 1) := by decide +kernel
theorem dX7_readSummand_40 : decode cX7_readSummand 40 = .ok (.getfield 34, 3) := by decide +kernel
theorem dX7_readSummand_43 : decode cX7_readSummand 43 = .ok (.ifCond .ne 22, 3) := by decide +kernel
theorem dX7_readSummand_46 : decode cX7_readSummand 46 = .ok (.aload_n 0, 1) := by decide +kernel
theorem dX7_readSummand_47 : decode cX7_readSummand 47 = .ok (.aload_n 2, 1) := by decide +kernel
theorem dX7_readSummand_48 : decode cX7_readSummand 48 = .ok (.invokevirtual 68, 3) := by decide +kernel
theorem dX7_readSummand_51 : decode cX7_readSummand 51 = .ok (.ifCond .eq 14, 3) := by decide +kernel
theorem dX7_readSummand_54 : decode cX7_readSummand 54 = .ok (.aload_n 0, 1) := by decide +kernel
theorem dX7_readSummand_55 : decode cX7_readSummand 55 = .ok (.aload_n 2, 1) := by decide +kernel
theorem dX7_readSummand_56 : decode cX7_readSummand 56 = .ok (.invokevirtual 72, 3) := by decide +kernel
theorem dX7_readSummand_59 : decode cX7_readSummand 59 = .ok (.iinc 3 1, 3) := by decide +kernel
theorem dX7_readSummand_62 : decode cX7_readSummand 62 = .ok (.goto (-30), 3) := by decide +kernel
theorem dX7_readSummand_65 : decode cX7_readSummand 65 = .ok (.aload_n 2, 1) := by decide +kernel
theorem dX7_readSummand_66 : decode cX7_readSummand 66 = .ok (.aload_n 0, 1) := by decide +kernel
theorem dX7_readSummand_67 : decode cX7_readSummand 67 = .ok (.getfield 28, 3) := by decide +kernel
theorem dX7_readSummand_70 : decode cX7_readSummand 70 = .ok (.iconst 0, 1) := by decide +kernel
theorem dX7_readSummand_71 : decode cX7_readSummand 71 = .ok (.iaload, 1) := by decide +kernel
theorem dX7_readSummand_72 : decode cX7_readSummand 72 = .ok (.aload_n 0, 1) := by decide +kernel
theorem dX7_readSummand_73 : decode cX7_readSummand 73 = .ok (.getfield 28, 3) := by decide +kernel
theorem dX7_readSummand_76 : decode cX7_readSummand 76 = .ok (.iconst 1, 1) := by decide +kernel
theorem dX7_readSummand_77 : decode cX7_readSummand 77 = .ok (.iaload, 1) := by decide +kernel
theorem dX7_readSummand_78 : decode cX7_readSummand 78 = .ok (.aload_n 0, 1) := by decide +kernel
theorem dX7_readSummand_79 : decode cX7_readSummand 79 = .ok (.getfield 28, 3) := by decide +kernel
theorem dX7_readSummand_82 : decode cX7_readSummand 82 = .ok (.iconst 2, 1) := by decide +kernel
theorem dX7_readSummand_83 : decode cX7_readSummand 83 = .ok (.iaload, 1) := by decide +kernel
theorem dX7_readSummand_84 : decode cX7_readSummand 84 = .ok (.invokevirtual 76, 3) := by decide +kernel
theorem dX7_readSummand_87 : decode cX7_readSummand 87 = .ok (.istore_n 3, 1) := by decide +kernel
theorem dX7_readSummand_88 : decode cX7_readSummand 88 = .ok (.aload_n 0, 1) := by decide +kernel
theorem dX7_readSummand_89 : decode cX7_readSummand 89 = .ok (.getfield 34, 3) := by decide +kernel
theorem dX7_readSummand_92 : decode cX7_readSummand 92 = .ok (.ifCond .ne 37, 3) := by decide +kernel
theorem dX7_readSummand_95 : decode cX7_readSummand 95 = .ok (.aload_n 0, 1) := by decide +kernel
theorem dX7_readSummand_96 : decode cX7_readSummand 96 = .ok (.getfield 24, 3) := by decide +kernel
theorem dX7_readSummand_99 : decode cX7_readSummand 99 = .ok (.iload_n 3, 1) := by decide +kernel
theorem dX7_readSummand_100 : decode cX7_readSummand 100 = .ok (.iload_n 1, 1) := by decide +kernel
theorem dX7_readSummand_101 : decode cX7_readSummand 101 = .ok (.ifCond .eq 17, 3) := by decide +kernel
theorem dX7_readSummand_104 : decode cX7_readSummand 104 = .ok (.aload_n 2, 1) := by decide +kernel
theorem dX7_readSummand_105 : decode cX7_readSummand 105 = .ok (.getfield 82, 3) := by decide +kernel
theorem dX7_readSummand_108 : decode cX7_readSummand 108 = .ok (.aload_n 0, 1) := by decide +kernel
theorem dX7_readSummand_109 : decode cX7_readSummand 109 = .ok (.getfield 59, 3) := by decide +kernel
theorem dX7_readSummand_112 : decode cX7_readSummand 112 = .ok (.invokevirtual 86, 3) := by decide +kernel
theorem dX7_readSummand_115 : decode cX7_readSummand 115 = .ok (.goto 7, 3) := by decide +kernel
theorem dX7_readSummand_118 : decode cX7_readSummand 118 = .ok (.aload_n 0, 1) := by decide +kernel
theorem dX7_readSummand_119 : decode cX7_readSummand 119 = .ok (.getfield 59, 3) := by decide +kernel
theorem dX7_readSummand_122 : decode cX7_readSummand 122 = .ok (.aload_n 2, 1) := by decide +kernel
theorem dX7_readSummand_123 : decode cX7_readSummand 123 = .ok (.getfield 82, 3) := by decide +kernel
theorem dX7_readSummand_126 : decode cX7_readSummand 126 = .ok (.invokevirtual 92, 3) := by decide +kernel
theorem dX7_readSummand_129 : decode cX7_readSummand 129 = .ok (.return_, 1) := by decide +kernel
theorem dX7_factorIsAhead_0 : decode cX7_factorIsAhead 0 = .ok (.aload_n 0, 1) := by decide +kernel
theorem dX7_factorIsAhead_1 : decode cX7_factorIsAhead 1 = .ok (.invokevirtual 43, 3) := by decide +kernel
theorem dX7_factorIsAhead_4 : decode cX7_factorIsAhead 4 = .ok (.istore_n 2, 1) := by decide +kernel
theorem dX7_factorIsAhead_5 : decode cX7_factorIsAhead 5 = .ok (.iload_n 2, 1) := by decide +kernel
theorem dX7_factorIsAhead_6 : decode cX7_factorIsAhead 6 = .ok (.invokestatic 96, 3) := by decide +kernel
theorem dX7_factorIsAhead_9 : decode cX7_factorIsAhead 9 = .ok (.ifCond .ne 11, 3) := by decide +kernel
theorem dX7_factorIsAhead_12 : decode cX7_factorIsAhead 12 = .ok (.iload_n 2, 1) := by decide +kernel
theorem dX7_factorIsAhead_13 : decode cX7_factorIsAhead 13 = .ok (.aload_n 1, 1) := by decide +kernel
theorem dX7_factorIsAhead_14 : decode cX7_factorIsAhead 14 = .ok (.invokestatic 100, 3) := by decide +kernel
theorem dX7_factorIsAhead_17 : decode cX7_factorIsAhead 17 = .ok (.ifCond .eq 7, 3) := by decide +kernel
theorem dX7_factorIsAhead_20 : decode cX7_factorIsAhead 20 = .ok (.iconst 1, 1) := by decide +kernel
theorem dX7_factorIsAhead_21 : decode cX7_factorIsAhead 21 = .ok (.goto 4, 3) := by decide +kernel
theorem dX7_factorIsAhead_24 : decode cX7_factorIsAhead 24 = .ok (.iconst 0, 1) := by decide +kernel
theorem dX7_factorIsAhead_25 : decode cX7_factorIsAhead 25 = .ok (.ireturn, 1) := by decide +kernel
theorem dX7_readFactor_0 : decode cX7_readFactor 0 = .ok (.aload_n 0, 1) := by decide +kernel
theorem dX7_readFactor_1 : decode cX7_readFactor 1 = .ok (.invokevirtual 43, 3) := by decide +kernel
theorem dX7_readFactor_4 : decode cX7_readFactor 4 = .ok (.istore_n 2, 1) := by decide +kernel
theorem dX7_readFactor_5 : decode cX7_readFactor 5 = .ok (.iload_n 2, 1) := by decide +kernel
theorem dX7_readFactor_6 : decode cX7_readFactor 6 = .ok (.invokestatic 96, 3) := by decide +kernel
theorem dX7_readFactor_9 : decode cX7_readFactor 9 = .ok (.ifCond .eq 33, 3) := by decide +kernel
theorem dX7_readFactor_12 : decode cX7_readFactor 12 = .ok (.aload_n 0, 1) := by decide +kernel
theorem dX7_readFactor_13 : decode cX7_readFactor 13 = .ok (.aload_n 1, 1) := by decide +kernel
theorem dX7_readFactor_14 : decode cX7_readFactor 14 = .ok (.getfield 82, 3) := by decide +kernel
theorem dX7_readFactor_17 : decode cX7_readFactor 17 = .ok (.aload_n 0, 1) := by decide +kernel
theorem dX7_readFactor_18 : decode cX7_readFactor 18 = .ok (.getfield 59, 3) := by decide +kernel
theorem dX7_readFactor_21 : decode cX7_readFactor 21 = .ok (.aload_n 1, 1) := by decide +kernel
theorem dX7_readFactor_22 : decode cX7_readFactor 22 = .ok (.getfield 82, 3) := by decide +kernel
theorem dX7_readFactor_25 : decode cX7_readFactor 25 = .ok (.aload_n 0, 1) := by decide +kernel
theorem dX7_readFactor_26 : decode cX7_readFactor 26 = .ok (.iconst 5, 1) := by decide +kernel
theorem dX7_readFactor_27 : decode cX7_readFactor 27 = .ok (.invokevirtual 104, 3) := by decide +kernel
theorem dX7_readFactor_30 : decode cX7_readFactor 30 = .ok (.invokevirtual 107, 3) := by decide +kernel
theorem dX7_readFactor_33 : decode cX7_readFactor 33 = .ok (.invokevirtual 110, 3) := by decide +kernel
theorem dX7_readFactor_36 : decode cX7_readFactor 36 = .ok (.putfield 59, 3) := by decide +kernel
theorem dX7_readFactor_39 : decode cX7_readFactor 39 = .ok (.goto 19, 3) := by decide +kernel
theorem dX7_readFactor_42 : decode cX7_readFactor 42 = .ok (.iload_n 2, 1) := by decide +kernel
theorem dX7_readFactor_43 : decode cX7_readFactor 43 = .ok (.aload_n 1, 1) := by decide +kernel
theorem dX7_readFactor_44 : decode cX7_readFactor 44 = .ok (.invokestatic 100, 3) := by decide +kernel
theorem dX7_readFactor_47 : decode cX7_readFactor 47 = .ok (.ifCond .eq 11, 3) := by decide +kernel
theorem dX7_readFactor_50 : decode cX7_readFactor 50 = .ok (.aload_n 0, 1) := by decide +kernel
theorem dX7_readFactor_51 : decode cX7_readFactor 51 = .ok (.iload_n 2, 1) := by decide +kernel
theorem dX7_readFactor_52 : decode cX7_readFactor 52 = .ok (.bipush 120, 2) := by decide +kernel
theorem dX7_readFactor_54 : decode cX7_readFactor 54 = .ok (.isub, 1) := by decide +kernel
theorem dX7_readFactor_55 : decode cX7_readFactor 55 = .ok (.invokevirtual 114, 3) := by decide +kernel
theorem dX7_readFactor_58 : decode cX7_readFactor 58 = .ok (.return_, 1) := by decide +kernel
theorem dX7_readPower_0 : decode cX7_readPower 0 = .ok (.aload_n 0, 1) := by decide +kernel
theorem dX7_readPower_1 : decode cX7_readPower 1 = .ok (.getfield 37, 3) := by decide +kernel
theorem dX7_readPower_4 : decode cX7_readPower 4 = .ok (.istore_n 2, 1) := by decide +kernel
theorem dX7_readPower_5 : decode cX7_readPower 5 = .ok (.aload_n 0, 1) := by decide +kernel
theorem dX7_readPower_6 : decode cX7_readPower 6 = .ok (.dup, 1) := by decide +kernel
theorem dX7_readPower_7 : decode cX7_readPower 7 = .ok (.getfield 37, 3) := by decide +kernel
theorem dX7_readPower_10 : decode cX7_readPower 10 = .ok (.iconst 1, 1) := by decide +kernel
theorem dX7_readPower_11 : decode cX7_readPower 11 = .ok (.iadd, 1) := by decide +kernel
theorem dX7_readPower_12 : decode cX7_readPower 12 = .ok (.putfield 37, 3) := by decide +kernel
theorem dX7_readPower_15 : decode cX7_readPower 15 = .ok (.iconst 1, 1) := by decide +kernel
theorem dX7_readPower_16 : decode cX7_readPower 16 = .ok (.istore_n 3, 1) := by decide +kernel
theorem dX7_readPower_17 : decode cX7_readPower 17 = .ok (.aload_n 0, 1) := by decide +kernel
theorem dX7_readPower_18 : decode cX7_readPower 18 = .ok (.invokevirtual 43, 3) := by decide +kernel
theorem dX7_readPower_21 : decode cX7_readPower 21 = .ok (.bipush 94, 2) := by decide +kernel
theorem dX7_readPower_23 : decode cX7_readPower 23 = .ok (.if_icmp .ne 38, 3) := by decide +kernel
theorem dX7_readPower_26 : decode cX7_readPower 26 = .ok (.aload_n 0, 1) := by decide +kernel
theorem dX7_readPower_27 : decode cX7_readPower 27 = .ok (.dup, 1) := by decide +kernel
theorem dX7_readPower_28 : decode cX7_readPower 28 = .ok (.getfield 37, 3) := by decide +kernel
theorem dX7_readPower_31 : decode cX7_readPower 31 = .ok (.iconst 1, 1) := by decide +kernel
theorem dX7_readPower_32 : decode cX7_readPower 32 = .ok (.iadd, 1) := by decide +kernel
theorem dX7_readPower_33 : decode cX7_readPower 33 = .ok (.putfield 37, 3) := by decide +kernel
theorem dX7_readPower_36 : decode cX7_readPower 36 = .ok (.aload_n 0, 1) := by decide +kernel
theorem dX7_readPower_37 : decode cX7_readPower 37 = .ok (.invokevirtual 43, 3) := by decide +kernel
theorem dX7_readPower_40 : decode cX7_readPower 40 = .ok (.invokestatic 96, 3) := by decide +kernel
theorem dX7_readPower_43 : decode cX7_readPower 43 = .ok (.ifCond .ne 12, 3) := by decide +kernel
theorem dX7_readPower_46 : decode cX7_readPower 46 = .ok (.aload_n 0, 1) := by decide +kernel
theorem dX7_readPower_47 : decode cX7_readPower 47 = .ok (.iconst 1, 1) := by decide +kernel
theorem dX7_readPower_48 : decode cX7_readPower 48 = .ok (.aload_n 0, 1) := by decide +kernel
theorem dX7_readPower_49 : decode cX7_readPower 49 = .ok (.getfield 37, 3) := by decide +kernel
theorem dX7_readPower_52 : decode cX7_readPower 52 = .ok (.invokevirtual 51, 3) := by decide +kernel
theorem dX7_readPower_55 : decode cX7_readPower 55 = .ok (.aload_n 0, 1) := by decide +kernel
theorem dX7_readPower_56 : decode cX7_readPower 56 = .ok (.iconst 2, 1) := by decide +kernel
theorem dX7_readPower_57 : decode cX7_readPower 57 = .ok (.invokevirtual 104, 3) := by decide +kernel
theorem dX7_readPower_60 : decode cX7_readPower 60 = .ok (.istore_n 3, 1) := by decide +kernel
theorem dX7_readPower_61 : decode cX7_readPower 61 = .ok (.iload_n 1, 1) := by decide +kernel
theorem dX7_readPower_62 : decode cX7_readPower 62 = .ok (.ifCond .lt 35, 3) := by decide +kernel
theorem dX7_readPower_65 : decode cX7_readPower 65 = .ok (.iload_n 1, 1) := by decide +kernel
theorem dX7_readPower_66 : decode cX7_readPower 66 = .ok (.iconst 3, 1) := by decide +kernel
theorem dX7_readPower_67 : decode cX7_readPower 67 = .ok (.if_icmp .ge 30, 3) := by decide +kernel
theorem dX7_readPower_70 : decode cX7_readPower 70 = .ok (.aload_n 0, 1) := by decide +kernel
theorem dX7_readPower_71 : decode cX7_readPower 71 = .ok (.getfield 28, 3) := by decide +kernel
theorem dX7_readPower_74 : decode cX7_readPower 74 = .ok (.iload_n 1, 1) := by decide +kernel
theorem dX7_readPower_75 : decode cX7_readPower 75 = .ok (.dup2, 1) := by decide +kernel
theorem dX7_readPower_76 : decode cX7_readPower 76 = .ok (.iaload, 1) := by decide +kernel
theorem dX7_readPower_77 : decode cX7_readPower 77 = .ok (.iload_n 3, 1) := by decide +kernel
theorem dX7_readPower_78 : decode cX7_readPower 78 = .ok (.iadd, 1) := by decide +kernel
theorem dX7_readPower_79 : decode cX7_readPower 79 = .ok (.iastore, 1) := by decide +kernel
theorem dX7_readPower_80 : decode cX7_readPower 80 = .ok (.aload_n 0, 1) := by decide +kernel
theorem dX7_readPower_81 : decode cX7_readPower 81 = .ok (.getfield 28, 3) := by decide +kernel
theorem dX7_readPower_84 : decode cX7_readPower 84 = .ok (.iload_n 1, 1) := by decide +kernel
theorem dX7_readPower_85 : decode cX7_readPower 85 = .ok (.iaload, 1) := by decide +kernel
theorem dX7_readPower_86 : decode cX7_readPower 86 = .ok (.bipush 30, 2) := by decide +kernel
theorem dX7_readPower_88 : decode cX7_readPower 88 = .ok (.if_icmp .le 9, 3) := by decide +kernel
theorem dX7_readPower_91 : decode cX7_readPower 91 = .ok (.aload_n 0, 1) := by decide +kernel
theorem dX7_readPower_92 : decode cX7_readPower 92 = .ok (.iconst 2, 1) := by decide +kernel
theorem dX7_readPower_93 : decode cX7_readPower 93 = .ok (.iload_n 2, 1) := by decide +kernel
theorem dX7_readPower_94 : decode cX7_readPower 94 = .ok (.invokevirtual 51, 3) := by decide +kernel
theorem dX7_readPower_97 : decode cX7_readPower 97 = .ok (.return_, 1) := by decide +kernel
theorem dX7_readDigits_0 : decode cX7_readDigits 0 = .ok (.aload_n 0, 1) := by decide +kernel
theorem dX7_readDigits_1 : decode cX7_readDigits 1 = .ok (.getfield 37, 3) := by decide +kernel
theorem dX7_readDigits_4 : decode cX7_readDigits 4 = .ok (.istore_n 2, 1) := by decide +kernel
theorem dX7_readDigits_5 : decode cX7_readDigits 5 = .ok (.iconst 0, 1) := by decide +kernel
theorem dX7_readDigits_6 : decode cX7_readDigits 6 = .ok (.istore_n 3, 1) := by decide +kernel
theorem dX7_readDigits_7 : decode cX7_readDigits 7 = .ok (.aload_n 0, 1) := by decide +kernel
theorem dX7_readDigits_8 : decode cX7_readDigits 8 = .ok (.getfield 37, 3) := by decide +kernel
theorem dX7_readDigits_11 : decode cX7_readDigits 11 = .ok (.aload_n 0, 1) := by decide +kernel
theorem dX7_readDigits_12 : decode cX7_readDigits 12 = .ok (.getfield 31, 3) := by decide +kernel
theorem dX7_readDigits_15 : decode cX7_readDigits 15 = .ok (.if_icmp .ge 69, 3) := by decide +kernel
theorem dX7_readDigits_18 : decode cX7_readDigits 18 = .ok (.aload_n 0, 1) := by decide +kernel
theorem dX7_readDigits_19 : decode cX7_readDigits 19 = .ok (.getfield 37, 3) := by decide +kernel
theorem dX7_readDigits_22 : decode cX7_readDigits 22 = .ok (.sipush 200, 3) := by decide +kernel
theorem dX7_readDigits_25 : decode cX7_readDigits 25 = .ok (.if_icmp .ge 59, 3) := by decide +kernel
theorem dX7_readDigits_28 : decode cX7_readDigits 28 = .ok (.aload_n 0, 1) := by decide +kernel
theorem dX7_readDigits_29 : decode cX7_readDigits 29 = .ok (.getfield 9, 3) := by decide +kernel
theorem dX7_readDigits_32 : decode cX7_readDigits 32 = .ok (.aload_n 0, 1) := by decide +kernel
theorem dX7_readDigits_33 : decode cX7_readDigits 33 = .ok (.getfield 37, 3) := by decide +kernel
theorem dX7_readDigits_36 : decode cX7_readDigits 36 = .ok (.iaload, 1) := by decide +kernel
theorem dX7_readDigits_37 : decode cX7_readDigits 37 = .ok (.invokestatic 96, 3) := by decide +kernel
theorem dX7_readDigits_40 : decode cX7_readDigits 40 = .ok (.ifCond .eq 44, 3) := by decide +kernel
theorem dX7_readDigits_43 : decode cX7_readDigits 43 = .ok (.aload_n 0, 1) := by decide +kernel
theorem dX7_readDigits_44 : decode cX7_readDigits 44 = .ok (.getfield 37, 3) := by decide +kernel
theorem dX7_readDigits_47 : decode cX7_readDigits 47 = .ok (.iload_n 2, 1) := by decide +kernel
theorem dX7_readDigits_48 : decode cX7_readDigits 48 = .ok (.isub, 1) := by decide +kernel
theorem dX7_readDigits_49 : decode cX7_readDigits 49 = .ok (.iload_n 1, 1) := by decide +kernel
theorem dX7_readDigits_50 : decode cX7_readDigits 50 = .ok (.if_icmp .ge 21, 3) := by decide +kernel
theorem dX7_readDigits_53 : decode cX7_readDigits 53 = .ok (.bipush 10, 2) := by decide +kernel
theorem dX7_readDigits_55 : decode cX7_readDigits 55 = .ok (.iload_n 3, 1) := by decide +kernel
theorem dX7_readDigits_56 : decode cX7_readDigits 56 = .ok (.imul, 1) := by decide +kernel
theorem dX7_readDigits_57 : decode cX7_readDigits 57 = .ok (.aload_n 0, 1) := by decide +kernel
theorem dX7_readDigits_58 : decode cX7_readDigits 58 = .ok (.getfield 9, 3) := by decide +kernel
theorem dX7_readDigits_61 : decode cX7_readDigits 61 = .ok (.aload_n 0, 1) := by decide +kernel
theorem dX7_readDigits_62 : decode cX7_readDigits 62 = .ok (.getfield 37, 3) := by decide +kernel
theorem dX7_readDigits_65 : decode cX7_readDigits 65 = .ok (.iaload, 1) := by decide +kernel
theorem dX7_readDigits_66 : decode cX7_readDigits 66 = .ok (.iadd, 1) := by decide +kernel
theorem dX7_readDigits_67 : decode cX7_readDigits 67 = .ok (.bipush 48, 2) := by decide +kernel
theorem dX7_readDigits_69 : decode cX7_readDigits 69 = .ok (.isub, 1) := by decide +kernel
theorem dX7_readDigits_70 : decode cX7_readDigits 70 = .ok (.istore_n 3, 1) := by decide +kernel
theorem dX7_readDigits_71 : decode cX7_readDigits 71 = .ok (.aload_n 0, 1) := by decide +kernel
theorem dX7_readDigits_72 : decode cX7_readDigits 72 = .ok (.dup, 1) := by decide +kernel
theorem dX7_readDigits_73 : decode cX7_readDigits 73 = .ok (.getfield 37, 3) := by decide +kernel
theorem dX7_readDigits_76 : decode cX7_readDigits 76 = .ok (.iconst 1, 1) := by decide +kernel
theorem dX7_readDigits_77 : decode cX7_readDigits 77 = .ok (.iadd, 1) := by decide +kernel
theorem dX7_readDigits_78 : decode cX7_readDigits 78 = .ok (.putfield 37, 3) := by decide +kernel
theorem dX7_readDigits_81 : decode cX7_readDigits 81 = .ok (.goto (-74), 3) := by decide +kernel
theorem dX7_readDigits_84 : decode cX7_readDigits 84 = .ok (.aload_n 0, 1) := by decide +kernel
theorem dX7_readDigits_85 : decode cX7_readDigits 85 = .ok (.getfield 37, 3) := by decide +kernel
theorem dX7_readDigits_88 : decode cX7_readDigits 88 = .ok (.iload_n 2, 1) := by decide +kernel
theorem dX7_readDigits_89 : decode cX7_readDigits 89 = .ok (.isub, 1) := by decide +kernel
theorem dX7_readDigits_90 : decode cX7_readDigits 90 = .ok (.iload_n 1, 1) := by decide +kernel
theorem dX7_readDigits_91 : decode cX7_readDigits 91 = .ok (.if_icmp .le 9, 3) := by decide +kernel
theorem dX7_readDigits_94 : decode cX7_readDigits 94 = .ok (.aload_n 0, 1) := by decide +kernel
theorem dX7_readDigits_95 : decode cX7_readDigits 95 = .ok (.iconst 1, 1) := by decide +kernel
theorem dX7_readDigits_96 : decode cX7_readDigits 96 = .ok (.iload_n 2, 1) := by decide +kernel
theorem dX7_readDigits_97 : decode cX7_readDigits 97 = .ok (.invokevirtual 51, 3) := by decide +kernel
theorem dX7_readDigits_100 : decode cX7_readDigits 100 = .ok (.iload_n 3, 1) := by decide +kernel
theorem dX7_readDigits_101 : decode cX7_readDigits 101 = .ok (.ireturn, 1) := by decide +kernel
theorem dX7_ahead_0 : decode cX7_ahead 0 = .ok (.aload_n 0, 1) := by decide +kernel
theorem dX7_ahead_1 : decode cX7_ahead 1 = .ok (.getfield 37, 3) := by decide +kernel
theorem dX7_ahead_4 : decode cX7_ahead 4 = .ok (.aload_n 0, 1) := by decide +kernel
theorem dX7_ahead_5 : decode cX7_ahead 5 = .ok (.getfield 31, 3) := by decide +kernel
theorem dX7_ahead_8 : decode cX7_ahead 8 = .ok (.if_icmp .ge 40, 3) := by decide +kernel
theorem dX7_ahead_11 : decode cX7_ahead 11 = .ok (.aload_n 0, 1) := by decide +kernel
theorem dX7_ahead_12 : decode cX7_ahead 12 = .ok (.getfield 37, 3) := by decide +kernel
theorem dX7_ahead_15 : decode cX7_ahead 15 = .ok (.sipush 200, 3) := by decide +kernel
theorem dX7_ahead_18 : decode cX7_ahead 18 = .ok (.if_icmp .ge 30, 3) := by decide +kernel
theorem dX7_ahead_21 : decode cX7_ahead 21 = .ok (.aload_n 0, 1) := by decide +kernel
theorem dX7_ahead_22 : decode cX7_ahead 22 = .ok (.getfield 9, 3) := by decide +kernel
theorem dX7_ahead_25 : decode cX7_ahead 25 = .ok (.aload_n 0, 1) := by decide +kernel
theorem dX7_ahead_26 : decode cX7_ahead 26 = .ok (.getfield 37, 3) := by decide +kernel
theorem dX7_ahead_29 : decode cX7_ahead 29 = .ok (.iaload, 1) := by decide +kernel
theorem dX7_ahead_30 : decode cX7_ahead 30 = .ok (.bipush 32, 2) := by decide +kernel
theorem dX7_ahead_32 : decode cX7_ahead 32 = .ok (.if_icmp .ne 16, 3) := by decide +kernel
theorem dX7_ahead_35 : decode cX7_ahead 35 = .ok (.aload_n 0, 1) := by decide +kernel
theorem dX7_ahead_36 : decode cX7_ahead 36 = .ok (.dup, 1) := by decide +kernel
theorem dX7_ahead_37 : decode cX7_ahead 37 = .ok (.getfield 37, 3) := by decide +kernel
theorem dX7_ahead_40 : decode cX7_ahead 40 = .ok (.iconst 1, 1) := by decide +kernel
theorem dX7_ahead_41 : decode cX7_ahead 41 = .ok (.iadd, 1) := by decide +kernel
theorem dX7_ahead_42 : decode cX7_ahead 42 = .ok (.putfield 37, 3) := by decide +kernel
theorem dX7_ahead_45 : decode cX7_ahead 45 = .ok (.goto (-45), 3) := by decide +kernel
theorem dX7_ahead_48 : decode cX7_ahead 48 = .ok (.aload_n 0, 1) := by decide +kernel
theorem dX7_ahead_49 : decode cX7_ahead 49 = .ok (.getfield 37, 3) := by decide +kernel
theorem dX7_ahead_52 : decode cX7_ahead 52 = .ok (.aload_n 0, 1) := by decide +kernel
theorem dX7_ahead_53 : decode cX7_ahead 53 = .ok (.getfield 31, 3) := by decide +kernel
theorem dX7_ahead_56 : decode cX7_ahead 56 = .ok (.if_icmp .ge 25, 3) := by decide +kernel
theorem dX7_ahead_59 : decode cX7_ahead 59 = .ok (.aload_n 0, 1) := by decide +kernel
theorem dX7_ahead_60 : decode cX7_ahead 60 = .ok (.getfield 37, 3) := by decide +kernel
theorem dX7_ahead_63 : decode cX7_ahead 63 = .ok (.sipush 200, 3) := by decide +kernel
theorem dX7_ahead_66 : decode cX7_ahead 66 = .ok (.if_icmp .ge 15, 3) := by decide +kernel
theorem dX7_ahead_69 : decode cX7_ahead 69 = .ok (.aload_n 0, 1) := by decide +kernel
theorem dX7_ahead_70 : decode cX7_ahead 70 = .ok (.getfield 9, 3) := by decide +kernel
theorem dX7_ahead_73 : decode cX7_ahead 73 = .ok (.aload_n 0, 1) := by decide +kernel
theorem dX7_ahead_74 : decode cX7_ahead 74 = .ok (.getfield 37, 3) := by decide +kernel
theorem dX7_ahead_77 : decode cX7_ahead 77 = .ok (.iaload, 1) := by decide +kernel
theorem dX7_ahead_78 : decode cX7_ahead 78 = .ok (.goto 4, 3) := by decide +kernel
theorem dX7_ahead_81 : decode cX7_ahead 81 = .ok (.iconst (-1), 1) := by decide +kernel
theorem dX7_ahead_82 : decode cX7_ahead 82 = .ok (.ireturn, 1) := by decide +kernel
theorem dX7_blame_0 : decode cX7_blame 0 = .ok (.aload_n 0, 1) := by decide +kernel
theorem dX7_blame_1 : decode cX7_blame 1 = .ok (.getfield 34, 3) := by decide +kernel
theorem dX7_blame_4 : decode cX7_blame 4 = .ok (.ifCond .ne 13, 3) := by decide +kernel
theorem dX7_blame_7 : decode cX7_blame 7 = .ok (.aload_n 0, 1) := by decide +kernel
theorem dX7_blame_8 : decode cX7_blame 8 = .ok (.iload_n 1, 1) := by decide +kernel
theorem dX7_blame_9 : decode cX7_blame 9 = .ok (.putfield 34, 3) := by decide +kernel
theorem dX7_blame_12 : decode cX7_blame 12 = .ok (.aload_n 0, 1) := by decide +kernel
theorem dX7_blame_13 : decode cX7_blame 13 = .ok (.iload_n 2, 1) := by decide +kernel
theorem dX7_blame_14 : decode cX7_blame 14 = .ok (.putfield 15, 3) := by decide +kernel
theorem dX7_blame_17 : decode cX7_blame 17 = .ok (.return_, 1) := by decide +kernel
theorem dX7_isDigit_0 : decode cX7_isDigit 0 = .ok (.iload_n 0, 1) := by decide +kernel
theorem dX7_isDigit_1 : decode cX7_isDigit 1 = .ok (.bipush 48, 2) := by decide +kernel
theorem dX7_isDigit_3 : decode cX7_isDigit 3 = .ok (.if_icmp .lt 13, 3) := by decide +kernel
theorem dX7_isDigit_6 : decode cX7_isDigit 6 = .ok (.iload_n 0, 1) := by decide +kernel
theorem dX7_isDigit_7 : decode cX7_isDigit 7 = .ok (.bipush 57, 2) := by decide +kernel
theorem dX7_isDigit_9 : decode cX7_isDigit 9 = .ok (.if_icmp .gt 7, 3) := by decide +kernel
theorem dX7_isDigit_12 : decode cX7_isDigit 12 = .ok (.iconst 1, 1) := by decide +kernel
theorem dX7_isDigit_13 : decode cX7_isDigit 13 = .ok (.goto 4, 3) := by decide +kernel
theorem dX7_isDigit_16 : decode cX7_isDigit 16 = .ok (.iconst 0, 1) := by decide +kernel
theorem dX7_isDigit_17 : decode cX7_isDigit 17 = .ok (.ireturn, 1) := by decide +kernel
theorem dX7_isVariable_0 : decode cX7_isVariable 0 = .ok (.iload_n 0, 1) := by decide +kernel
theorem dX7_isVariable_1 : decode cX7_isVariable 1 = .ok (.bipush 120, 2) := by decide +kernel
theorem dX7_isVariable_3 : decode cX7_isVariable 3 = .ok (.if_icmp .lt 18, 3) := by decide +kernel
theorem dX7_isVariable_6 : decode cX7_isVariable 6 = .ok (.iload_n 0, 1) := by decide +kernel
theorem dX7_isVariable_7 : decode cX7_isVariable 7 = .ok (.bipush 120, 2) := by decide +kernel
theorem dX7_isVariable_9 : decode cX7_isVariable 9 = .ok (.aload_n 1, 1) := by decide +kernel
theorem dX7_isVariable_10 : decode cX7_isVariable 10 = .ok (.getfield 117, 3) := by decide +kernel
theorem dX7_isVariable_13 : decode cX7_isVariable 13 = .ok (.iadd, 1) := by decide +kernel
theorem dX7_isVariable_14 : decode cX7_isVariable 14 = .ok (.if_icmp .ge 7, 3) := by decide +kernel
theorem dX7_isVariable_17 : decode cX7_isVariable 17 = .ok (.iconst 1, 1) := by decide +kernel
theorem dX7_isVariable_18 : decode cX7_isVariable 18 = .ok (.goto 4, 3) := by decide +kernel
theorem dX7_isVariable_21 : decode cX7_isVariable 21 = .ok (.iconst 0, 1) := by decide +kernel
theorem dX7_isVariable_22 : decode cX7_isVariable 22 = .ok (.ireturn, 1) := by decide +kernel
