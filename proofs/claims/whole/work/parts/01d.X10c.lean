theorem dX10_addsRow_20 : decode cX10_addsRow 20 = .ok (.ifCond .ne 10, 3) := by decide +kernel
theorem dX10_addsRow_23 : decode cX10_addsRow 23 = .ok (.iload_n 1, 1) := by decide +kernel
theorem dX10_addsRow_24 : decode cX10_addsRow 24 = .ok (.iconst 1, 1) := by decide +kernel
theorem dX10_addsRow_25 : decode cX10_addsRow 25 = .ok (.iadd, 1) := by decide +kernel
theorem dX10_addsRow_26 : decode cX10_addsRow 26 = .ok (.istore_n 1, 1) := by decide +kernel
theorem dX10_addsRow_27 : decode cX10_addsRow 27 = .ok (.goto (-21), 3) := by decide +kernel
theorem dX10_addsRow_30 : decode cX10_addsRow 30 = .ok (.iload_n 1, 1) := by decide +kernel
theorem dX10_addsRow_31 : decode cX10_addsRow 31 = .ok (.aload_n 0, 1) := by decide +kernel
theorem dX10_addsRow_32 : decode cX10_addsRow 32 = .ok (.getfield 283, 3) := by decide +kernel
theorem dX10_addsRow_35 : decode cX10_addsRow 35 = .ok (.if_icmp .ne 4, 3) := by decide +kernel
theorem dX10_addsRow_38 : decode cX10_addsRow 38 = .ok (.return_, 1) := by decide +kernel
theorem dX10_addsRow_39 : decode cX10_addsRow 39 = .ok (.aload_n 0, 1) := by decide +kernel
theorem dX10_addsRow_40 : decode cX10_addsRow 40 = .ok (.aload_n 0, 1) := by decide +kernel
theorem dX10_addsRow_41 : decode cX10_addsRow 41 = .ok (.getfield 62, 3) := by decide +kernel
theorem dX10_addsRow_44 : decode cX10_addsRow 44 = .ok (.iload_n 1, 1) := by decide +kernel
theorem dX10_addsRow_45 : decode cX10_addsRow 45 = .ok (.iaload, 1) := by decide +kernel
theorem dX10_addsRow_46 : decode cX10_addsRow 46 = .ok (.invokevirtual 244, 3) := by decide +kernel
theorem dX10_addsRow_49 : decode cX10_addsRow 49 = .ok (.i2l, 1) := by decide +kernel
theorem dX10_addsRow_50 : decode cX10_addsRow 50 = .ok (.lstore_n 2, 1) := by decide +kernel
theorem dX10_addsRow_51 : decode cX10_addsRow 51 = .ok (.iconst 0, 1) := by decide +kernel
theorem dX10_addsRow_52 : decode cX10_addsRow 52 = .ok (.istore 4, 2) := by decide +kernel
theorem dX10_addsRow_54 : decode cX10_addsRow 54 = .ok (.iload 4, 2) := by decide +kernel
theorem dX10_addsRow_56 : decode cX10_addsRow 56 = .ok (.aload_n 0, 1) := by decide +kernel
theorem dX10_addsRow_57 : decode cX10_addsRow 57 = .ok (.getfield 283, 3) := by decide +kernel
theorem dX10_addsRow_60 : decode cX10_addsRow 60 = .ok (.if_icmp .ge 38, 3) := by decide +kernel
theorem dX10_addsRow_63 : decode cX10_addsRow 63 = .ok (.aload_n 0, 1) := by decide +kernel
theorem dX10_addsRow_64 : decode cX10_addsRow 64 = .ok (.getfield 55, 3) := by decide +kernel
theorem dX10_addsRow_67 : decode cX10_addsRow 67 = .ok (.bipush 120, 2) := by decide +kernel
theorem dX10_addsRow_69 : decode cX10_addsRow 69 = .ok (.iload_n 1, 1) := by decide +kernel
theorem dX10_addsRow_70 : decode cX10_addsRow 70 = .ok (.imul, 1) := by decide +kernel
theorem dX10_addsRow_71 : decode cX10_addsRow 71 = .ok (.iload 4, 2) := by decide +kernel
theorem dX10_addsRow_73 : decode cX10_addsRow 73 = .ok (.iadd, 1) := by decide +kernel
theorem dX10_addsRow_74 : decode cX10_addsRow 74 = .ok (.aload_n 0, 1) := by decide +kernel
theorem dX10_addsRow_75 : decode cX10_addsRow 75 = .ok (.getfield 62, 3) := by decide +kernel
theorem dX10_addsRow_78 : decode cX10_addsRow 78 = .ok (.iload 4, 2) := by decide +kernel
theorem dX10_addsRow_80 : decode cX10_addsRow 80 = .ok (.iaload, 1) := by decide +kernel
theorem dX10_addsRow_81 : decode cX10_addsRow 81 = .ok (.i2l, 1) := by decide +kernel
theorem dX10_addsRow_82 : decode cX10_addsRow 82 = .ok (.lload_n 2, 1) := by decide +kernel
theorem dX10_addsRow_83 : decode cX10_addsRow 83 = .ok (.lmul, 1) := by decide +kernel
theorem dX10_addsRow_84 : decode cX10_addsRow 84 = .ok (.aload_n 0, 1) := by decide +kernel
theorem dX10_addsRow_85 : decode cX10_addsRow 85 = .ok (.getfield 13, 3) := by decide +kernel
theorem dX10_addsRow_88 : decode cX10_addsRow 88 = .ok (.i2l, 1) := by decide +kernel
theorem dX10_addsRow_89 : decode cX10_addsRow 89 = .ok (.lrem, 1) := by decide +kernel
theorem dX10_addsRow_90 : decode cX10_addsRow 90 = .ok (.l2i, 1) := by decide +kernel
theorem dX10_addsRow_91 : decode cX10_addsRow 91 = .ok (.iastore, 1) := by decide +kernel
theorem dX10_addsRow_92 : decode cX10_addsRow 92 = .ok (.iinc 4 1, 3) := by decide +kernel
theorem dX10_addsRow_95 : decode cX10_addsRow 95 = .ok (.goto (-41), 3) := by decide +kernel
theorem dX10_addsRow_98 : decode cX10_addsRow 98 = .ok (.aload_n 0, 1) := by decide +kernel
theorem dX10_addsRow_99 : decode cX10_addsRow 99 = .ok (.getfield 58, 3) := by decide +kernel
theorem dX10_addsRow_102 : decode cX10_addsRow 102 = .ok (.iload_n 1, 1) := by decide +kernel
theorem dX10_addsRow_103 : decode cX10_addsRow 103 = .ok (.iconst 1, 1) := by decide +kernel
theorem dX10_addsRow_104 : decode cX10_addsRow 104 = .ok (.bastore, 1) := by decide +kernel
theorem dX10_addsRow_105 : decode cX10_addsRow 105 = .ok (.return_, 1) := by decide +kernel
theorem dX10_addsAll_0 : decode cX10_addsAll 0 = .ok (.aload_n 0, 1) := by decide +kernel
theorem dX10_addsAll_1 : decode cX10_addsAll 1 = .ok (.getfield 20, 3) := by decide +kernel
theorem dX10_addsAll_4 : decode cX10_addsAll 4 = .ok (.iload_n 1, 1) := by decide +kernel
theorem dX10_addsAll_5 : decode cX10_addsAll 5 = .ok (.iaload, 1) := by decide +kernel
theorem dX10_addsAll_6 : decode cX10_addsAll 6 = .ok (.ifCond .ne 4, 3) := by decide +kernel
theorem dX10_addsAll_9 : decode cX10_addsAll 9 = .ok (.return_, 1) := by decide +kernel
theorem dX10_addsAll_10 : decode cX10_addsAll 10 = .ok (.iconst 0, 1) := by decide +kernel
theorem dX10_addsAll_11 : decode cX10_addsAll 11 = .ok (.istore_n 2, 1) := by decide +kernel
theorem dX10_addsAll_12 : decode cX10_addsAll 12 = .ok (.iload_n 2, 1) := by decide +kernel
theorem dX10_addsAll_13 : decode cX10_addsAll 13 = .ok (.aload_n 0, 1) := by decide +kernel
theorem dX10_addsAll_14 : decode cX10_addsAll 14 = .ok (.getfield 283, 3) := by decide +kernel
theorem dX10_addsAll_17 : decode cX10_addsAll 17 = .ok (.if_icmp .ge 73, 3) := by decide +kernel
theorem dX10_addsAll_20 : decode cX10_addsAll 20 = .ok (.aload_n 0, 1) := by decide +kernel
theorem dX10_addsAll_21 : decode cX10_addsAll 21 = .ok (.iload_n 2, 1) := by decide +kernel
theorem dX10_addsAll_22 : decode cX10_addsAll 22 = .ok (.invokevirtual 295, 3) := by decide +kernel
theorem dX10_addsAll_25 : decode cX10_addsAll 25 = .ok (.aload_n 0, 1) := by decide +kernel
theorem dX10_addsAll_26 : decode cX10_addsAll 26 = .ok (.iload_n 1, 1) := by decide +kernel
theorem dX10_addsAll_27 : decode cX10_addsAll 27 = .ok (.invokevirtual 86, 3) := by decide +kernel
theorem dX10_addsAll_30 : decode cX10_addsAll 30 = .ok (.iadd, 1) := by decide +kernel
theorem dX10_addsAll_31 : decode cX10_addsAll 31 = .ok (.aload_n 0, 1) := by decide +kernel
theorem dX10_addsAll_32 : decode cX10_addsAll 32 = .ok (.aload_n 0, 1) := by decide +kernel
theorem dX10_addsAll_33 : decode cX10_addsAll 33 = .ok (.getfield 283, 3) := by decide +kernel
theorem dX10_addsAll_36 : decode cX10_addsAll 36 = .ok (.iconst 1, 1) := by decide +kernel
theorem dX10_addsAll_37 : decode cX10_addsAll 37 = .ok (.isub, 1) := by decide +kernel
theorem dX10_addsAll_38 : decode cX10_addsAll 38 = .ok (.invokevirtual 295, 3) := by decide +kernel
theorem dX10_addsAll_41 : decode cX10_addsAll 41 = .ok (.if_icmp .le 6, 3) := by decide +kernel
theorem dX10_addsAll_44 : decode cX10_addsAll 44 = .ok (.goto 40, 3) := by decide +kernel
theorem dX10_addsAll_47 : decode cX10_addsAll 47 = .ok (.aload_n 0, 1) := by decide +kernel
theorem dX10_addsAll_48 : decode cX10_addsAll 48 = .ok (.iload_n 1, 1) := by decide +kernel
theorem dX10_addsAll_49 : decode cX10_addsAll 49 = .ok (.aload_n 0, 1) := by decide +kernel
theorem dX10_addsAll_50 : decode cX10_addsAll 50 = .ok (.getfield 52, 3) := by decide +kernel
theorem dX10_addsAll_53 : decode cX10_addsAll 53 = .ok (.iconst 3, 1) := by decide +kernel
theorem dX10_addsAll_54 : decode cX10_addsAll 54 = .ok (.iload_n 2, 1) := by decide +kernel
theorem dX10_addsAll_55 : decode cX10_addsAll 55 = .ok (.imul, 1) := by decide +kernel
theorem dX10_addsAll_56 : decode cX10_addsAll 56 = .ok (.iaload, 1) := by decide +kernel
theorem dX10_addsAll_57 : decode cX10_addsAll 57 = .ok (.aload_n 0, 1) := by decide +kernel
theorem dX10_addsAll_58 : decode cX10_addsAll 58 = .ok (.getfield 52, 3) := by decide +kernel
theorem dX10_addsAll_61 : decode cX10_addsAll 61 = .ok (.iconst 3, 1) := by decide +kernel
theorem dX10_addsAll_62 : decode cX10_addsAll 62 = .ok (.iload_n 2, 1) := by decide +kernel
theorem dX10_addsAll_63 : decode cX10_addsAll 63 = .ok (.imul, 1) := by decide +kernel
theorem dX10_addsAll_64 : decode cX10_addsAll 64 = .ok (.iconst 1, 1) := by decide +kernel
theorem dX10_addsAll_65 : decode cX10_addsAll 65 = .ok (.iadd, 1) := by decide +kernel
theorem dX10_addsAll_66 : decode cX10_addsAll 66 = .ok (.iaload, 1) := by decide +kernel
theorem dX10_addsAll_67 : decode cX10_addsAll 67 = .ok (.aload_n 0, 1) := by decide +kernel
theorem dX10_addsAll_68 : decode cX10_addsAll 68 = .ok (.getfield 52, 3) := by decide +kernel
theorem dX10_addsAll_71 : decode cX10_addsAll 71 = .ok (.iconst 3, 1) := by decide +kernel
theorem dX10_addsAll_72 : decode cX10_addsAll 72 = .ok (.iload_n 2, 1) := by decide +kernel
theorem dX10_addsAll_73 : decode cX10_addsAll 73 = .ok (.imul, 1) := by decide +kernel
theorem dX10_addsAll_74 : decode cX10_addsAll 74 = .ok (.iconst 2, 1) := by decide +kernel
theorem dX10_addsAll_75 : decode cX10_addsAll 75 = .ok (.iadd, 1) := by decide +kernel
theorem dX10_addsAll_76 : decode cX10_addsAll 76 = .ok (.iaload, 1) := by decide +kernel
theorem dX10_addsAll_77 : decode cX10_addsAll 77 = .ok (.invokevirtual 298, 3) := by decide +kernel
theorem dX10_addsAll_80 : decode cX10_addsAll 80 = .ok (.aload_n 0, 1) := by decide +kernel
theorem dX10_addsAll_81 : decode cX10_addsAll 81 = .ok (.invokevirtual 301, 3) := by decide +kernel
theorem dX10_addsAll_84 : decode cX10_addsAll 84 = .ok (.iinc 2 1, 3) := by decide +kernel
theorem dX10_addsAll_87 : decode cX10_addsAll 87 = .ok (.goto (-75), 3) := by decide +kernel
theorem dX10_addsAll_90 : decode cX10_addsAll 90 = .ok (.return_, 1) := by decide +kernel
theorem dX10_beginsIdeal_0 : decode cX10_beginsIdeal 0 = .ok (.aload_n 0, 1) := by decide +kernel
theorem dX10_beginsIdeal_1 : decode cX10_beginsIdeal 1 = .ok (.iload_n 1, 1) := by decide +kernel
theorem dX10_beginsIdeal_2 : decode cX10_beginsIdeal 2 = .ok (.invokevirtual 304, 3) := by decide +kernel
theorem dX10_beginsIdeal_5 : decode cX10_beginsIdeal 5 = .ok (.iconst 0, 1) := by decide +kernel
theorem dX10_beginsIdeal_6 : decode cX10_beginsIdeal 6 = .ok (.istore_n 2, 1) := by decide +kernel
theorem dX10_beginsIdeal_7 : decode cX10_beginsIdeal 7 = .ok (.iload_n 2, 1) := by decide +kernel
theorem dX10_beginsIdeal_8 : decode cX10_beginsIdeal 8 = .ok (.aload_n 0, 1) := by decide +kernel
theorem dX10_beginsIdeal_9 : decode cX10_beginsIdeal 9 = .ok (.getfield 283, 3) := by decide +kernel
theorem dX10_beginsIdeal_12 : decode cX10_beginsIdeal 12 = .ok (.if_icmp .ge 16, 3) := by decide +kernel
theorem dX10_beginsIdeal_15 : decode cX10_beginsIdeal 15 = .ok (.aload_n 0, 1) := by decide +kernel
theorem dX10_beginsIdeal_16 : decode cX10_beginsIdeal 16 = .ok (.getfield 58, 3) := by decide +kernel
theorem dX10_beginsIdeal_19 : decode cX10_beginsIdeal 19 = .ok (.iload_n 2, 1) := by decide +kernel
theorem dX10_beginsIdeal_20 : decode cX10_beginsIdeal 20 = .ok (.iconst 0, 1) := by decide +kernel
theorem dX10_beginsIdeal_21 : decode cX10_beginsIdeal 21 = .ok (.bastore, 1) := by decide +kernel
theorem dX10_beginsIdeal_22 : decode cX10_beginsIdeal 22 = .ok (.iinc 2 1, 3) := by decide +kernel
theorem dX10_beginsIdeal_25 : decode cX10_beginsIdeal 25 = .ok (.goto (-18), 3) := by decide +kernel
theorem dX10_beginsIdeal_28 : decode cX10_beginsIdeal 28 = .ok (.return_, 1) := by decide +kernel
theorem dX10_laysIdeal_0 : decode cX10_laysIdeal 0 = .ok (.aload_n 0, 1) := by decide +kernel
theorem dX10_laysIdeal_1 : decode cX10_laysIdeal 1 = .ok (.iload_n 2, 1) := by decide +kernel
theorem dX10_laysIdeal_2 : decode cX10_laysIdeal 2 = .ok (.invokevirtual 307, 3) := by decide +kernel
theorem dX10_laysIdeal_5 : decode cX10_laysIdeal 5 = .ok (.iconst 0, 1) := by decide +kernel
theorem dX10_laysIdeal_6 : decode cX10_laysIdeal 6 = .ok (.istore_n 3, 1) := by decide +kernel
theorem dX10_laysIdeal_7 : decode cX10_laysIdeal 7 = .ok (.iload_n 3, 1) := by decide +kernel
theorem dX10_laysIdeal_8 : decode cX10_laysIdeal 8 = .ok (.bipush 8, 2) := by decide +kernel
theorem dX10_laysIdeal_10 : decode cX10_laysIdeal 10 = .ok (.if_icmp .ge 23, 3) := by decide +kernel
theorem dX10_laysIdeal_13 : decode cX10_laysIdeal 13 = .ok (.aload_n 0, 1) := by decide +kernel
theorem dX10_laysIdeal_14 : decode cX10_laysIdeal 14 = .ok (.iload_n 1, 1) := by decide +kernel
theorem dX10_laysIdeal_15 : decode cX10_laysIdeal 15 = .ok (.iload_n 3, 1) := by decide +kernel
theorem dX10_laysIdeal_16 : decode cX10_laysIdeal 16 = .ok (.invokevirtual 264, 3) := by decide +kernel
theorem dX10_laysIdeal_19 : decode cX10_laysIdeal 19 = .ok (.ifCond .eq 8, 3) := by decide +kernel
theorem dX10_laysIdeal_22 : decode cX10_laysIdeal 22 = .ok (.aload_n 0, 1) := by decide +kernel
theorem dX10_laysIdeal_23 : decode cX10_laysIdeal 23 = .ok (.iload_n 3, 1) := by decide +kernel
theorem dX10_laysIdeal_24 : decode cX10_laysIdeal 24 = .ok (.invokevirtual 310, 3) := by decide +kernel
theorem dX10_laysIdeal_27 : decode cX10_laysIdeal 27 = .ok (.iinc 3 1, 3) := by decide +kernel
theorem dX10_laysIdeal_30 : decode cX10_laysIdeal 30 = .ok (.goto (-23), 3) := by decide +kernel
theorem dX10_laysIdeal_33 : decode cX10_laysIdeal 33 = .ok (.return_, 1) := by decide +kernel
theorem dX10_canAsk_0 : decode cX10_canAsk 0 = .ok (.aload_n 0, 1) := by decide +kernel
theorem dX10_canAsk_1 : decode cX10_canAsk 1 = .ok (.iload_n 1, 1) := by decide +kernel
theorem dX10_canAsk_2 : decode cX10_canAsk 2 = .ok (.i2l, 1) := by decide +kernel
theorem dX10_canAsk_3 : decode cX10_canAsk 3 = .ok (.lconst 0, 1) := by decide +kernel
theorem dX10_canAsk_4 : decode cX10_canAsk 4 = .ok (.ldc2_w 267, 3) := by decide +kernel
theorem dX10_canAsk_7 : decode cX10_canAsk 7 = .ok (.invokevirtual 106, 3) := by decide +kernel
theorem dX10_canAsk_10 : decode cX10_canAsk 10 = .ok (.ifCond .eq 22, 3) := by decide +kernel
theorem dX10_canAsk_13 : decode cX10_canAsk 13 = .ok (.aload_n 0, 1) := by decide +kernel
theorem dX10_canAsk_14 : decode cX10_canAsk 14 = .ok (.iload_n 2, 1) := by decide +kernel
theorem dX10_canAsk_15 : decode cX10_canAsk 15 = .ok (.i2l, 1) := by decide +kernel
theorem dX10_canAsk_16 : decode cX10_canAsk 16 = .ok (.lconst 1, 1) := by decide +kernel
theorem dX10_canAsk_17 : decode cX10_canAsk 17 = .ok (.aload_n 0, 1) := by decide +kernel
theorem dX10_canAsk_18 : decode cX10_canAsk 18 = .ok (.invokevirtual 313, 3) := by decide +kernel
theorem dX10_canAsk_21 : decode cX10_canAsk 21 = .ok (.i2l, 1) := by decide +kernel
theorem dX10_canAsk_22 : decode cX10_canAsk 22 = .ok (.invokevirtual 106, 3) := by decide +kernel
theorem dX10_canAsk_25 : decode cX10_canAsk 25 = .ok (.ifCond .eq 7, 3) := by decide +kernel
theorem dX10_canAsk_28 : decode cX10_canAsk 28 = .ok (.iconst 1, 1) := by decide +kernel
theorem dX10_canAsk_29 : decode cX10_canAsk 29 = .ok (.goto 4, 3) := by decide +kernel
theorem dX10_canAsk_32 : decode cX10_canAsk 32 = .ok (.iconst 0, 1) := by decide +kernel
theorem dX10_canAsk_33 : decode cX10_canAsk 33 = .ok (.ireturn, 1) := by decide +kernel
theorem dX10_isDivider_0 : decode cX10_isDivider 0 = .ok (.iconst 0, 1) := by decide +kernel
theorem dX10_isDivider_1 : decode cX10_isDivider 1 = .ok (.istore_n 3, 1) := by decide +kernel
theorem dX10_isDivider_2 : decode cX10_isDivider 2 = .ok (.iload_n 3, 1) := by decide +kernel
theorem dX10_isDivider_3 : decode cX10_isDivider 3 = .ok (.iconst 3, 1) := by decide +kernel
theorem dX10_isDivider_4 : decode cX10_isDivider 4 = .ok (.if_icmp .ge 34, 3) := by decide +kernel
theorem dX10_isDivider_7 : decode cX10_isDivider 7 = .ok (.aload_n 0, 1) := by decide +kernel
theorem dX10_isDivider_8 : decode cX10_isDivider 8 = .ok (.getfield 52, 3) := by decide +kernel
theorem dX10_isDivider_11 : decode cX10_isDivider 11 = .ok (.iconst 3, 1) := by decide +kernel
theorem dX10_isDivider_12 : decode cX10_isDivider 12 = .ok (.iload_n 1, 1) := by decide +kernel
theorem dX10_isDivider_13 : decode cX10_isDivider 13 = .ok (.imul, 1) := by decide +kernel
theorem dX10_isDivider_14 : decode cX10_isDivider 14 = .ok (.iload_n 3, 1) := by decide +kernel
theorem dX10_isDivider_15 : decode cX10_isDivider 15 = .ok (.iadd, 1) := by decide +kernel
theorem dX10_isDivider_16 : decode cX10_isDivider 16 = .ok (.iaload, 1) := by decide +kernel
theorem dX10_isDivider_17 : decode cX10_isDivider 17 = .ok (.aload_n 0, 1) := by decide +kernel
theorem dX10_isDivider_18 : decode cX10_isDivider 18 = .ok (.getfield 52, 3) := by decide +kernel
theorem dX10_isDivider_21 : decode cX10_isDivider 21 = .ok (.iconst 3, 1) := by decide +kernel
theorem dX10_isDivider_22 : decode cX10_isDivider 22 = .ok (.iload_n 2, 1) := by decide +kernel
theorem dX10_isDivider_23 : decode cX10_isDivider 23 = .ok (.imul, 1) := by decide +kernel
theorem dX10_isDivider_24 : decode cX10_isDivider 24 = .ok (.iload_n 3, 1) := by decide +kernel
theorem dX10_isDivider_25 : decode cX10_isDivider 25 = .ok (.iadd, 1) := by decide +kernel
theorem dX10_isDivider_26 : decode cX10_isDivider 26 = .ok (.iaload, 1) := by decide +kernel
theorem dX10_isDivider_27 : decode cX10_isDivider 27 = .ok (.if_icmp .le 5, 3) := by decide +kernel
theorem dX10_isDivider_30 : decode cX10_isDivider 30 = .ok (.iconst 0, 1) := by decide +kernel
theorem dX10_isDivider_31 : decode cX10_isDivider 31 = .ok (.ireturn, 1) := by decide +kernel
theorem dX10_isDivider_32 : decode cX10_isDivider 32 = .ok (.iinc 3 1, 3) := by decide +kernel
theorem dX10_isDivider_35 : decode cX10_isDivider 35 = .ok (.goto (-33), 3) := by decide +kernel
theorem dX10_isDivider_38 : decode cX10_isDivider 38 = .ok (.iconst 1, 1) := by decide +kernel
theorem dX10_isDivider_39 : decode cX10_isDivider 39 = .ok (.ireturn, 1) := by decide +kernel
theorem dX10_isCorner_0 : decode cX10_isCorner 0 = .ok (.iconst 0, 1) := by decide +kernel
theorem dX10_isCorner_1 : decode cX10_isCorner 1 = .ok (.istore_n 2, 1) := by decide +kernel
theorem dX10_isCorner_2 : decode cX10_isCorner 2 = .ok (.iload_n 2, 1) := by decide +kernel
theorem dX10_isCorner_3 : decode cX10_isCorner 3 = .ok (.aload_n 0, 1) := by decide +kernel
theorem dX10_isCorner_4 : decode cX10_isCorner 4 = .ok (.getfield 283, 3) := by decide +kernel
theorem dX10_isCorner_7 : decode cX10_isCorner 7 = .ok (.if_icmp .ge 34, 3) := by decide +kernel
theorem dX10_isCorner_10 : decode cX10_isCorner 10 = .ok (.iload_n 2, 1) := by decide +kernel
theorem dX10_isCorner_11 : decode cX10_isCorner 11 = .ok (.iload_n 1, 1) := by decide +kernel
theorem dX10_isCorner_12 : decode cX10_isCorner 12 = .ok (.if_icmp .eq 23, 3) := by decide +kernel
theorem dX10_isCorner_15 : decode cX10_isCorner 15 = .ok (.aload_n 0, 1) := by decide +kernel
theorem dX10_isCorner_16 : decode cX10_isCorner 16 = .ok (.getfield 58, 3) := by decide +kernel
theorem dX10_isCorner_19 : decode cX10_isCorner 19 = .ok (.iload_n 2, 1) := by decide +kernel
theorem dX10_isCorner_20 : decode cX10_isCorner 20 = .ok (.baload, 1) := by decide +kernel
theorem dX10_isCorner_21 : decode cX10_isCorner 21 = .ok (.ifCond .eq 14, 3) := by decide +kernel
theorem dX10_isCorner_24 : decode cX10_isCorner 24 = .ok (.aload_n 0, 1) := by decide +kernel
theorem dX10_isCorner_25 : decode cX10_isCorner 25 = .ok (.iload_n 2, 1) := by decide +kernel
theorem dX10_isCorner_26 : decode cX10_isCorner 26 = .ok (.iload_n 1, 1) := by decide +kernel
theorem dX10_isCorner_27 : decode cX10_isCorner 27 = .ok (.invokevirtual 316, 3) := by decide +kernel
theorem dX10_isCorner_30 : decode cX10_isCorner 30 = .ok (.ifCond .eq 5, 3) := by decide +kernel
theorem dX10_isCorner_33 : decode cX10_isCorner 33 = .ok (.iconst 0, 1) := by decide +kernel
theorem dX10_isCorner_34 : decode cX10_isCorner 34 = .ok (.ireturn, 1) := by decide +kernel
theorem dX10_isCorner_35 : decode cX10_isCorner 35 = .ok (.iinc 2 1, 3) := by decide +kernel
theorem dX10_isCorner_38 : decode cX10_isCorner 38 = .ok (.goto (-36), 3) := by decide +kernel
theorem dX10_isCorner_41 : decode cX10_isCorner 41 = .ok (.aload_n 0, 1) := by decide +kernel
theorem dX10_isCorner_42 : decode cX10_isCorner 42 = .ok (.getfield 58, 3) := by decide +kernel
theorem dX10_isCorner_45 : decode cX10_isCorner 45 = .ok (.iload_n 1, 1) := by decide +kernel
theorem dX10_isCorner_46 : decode cX10_isCorner 46 = .ok (.baload, 1) := by decide +kernel
theorem dX10_isCorner_47 : decode cX10_isCorner 47 = .ok (.ireturn, 1) := by decide +kernel
theorem dX10_found_0 : decode cX10_found 0 = .ok (.iconst 0, 1) := by decide +kernel
theorem dX10_found_1 : decode cX10_found 1 = .ok (.istore_n 3, 1) := by decide +kernel
theorem dX10_found_2 : decode cX10_found 2 = .ok (.iconst 0, 1) := by decide +kernel
theorem dX10_found_3 : decode cX10_found 3 = .ok (.istore 4, 2) := by decide +kernel
theorem dX10_found_5 : decode cX10_found 5 = .ok (.iload 4, 2) := by decide +kernel
theorem dX10_found_7 : decode cX10_found 7 = .ok (.aload_n 0, 1) := by decide +kernel
theorem dX10_found_8 : decode cX10_found 8 = .ok (.getfield 283, 3) := by decide +kernel
theorem dX10_found_11 : decode cX10_found 11 = .ok (.if_icmp .ge 50, 3) := by decide +kernel
theorem dX10_found_14 : decode cX10_found 14 = .ok (.iload_n 1, 1) := by decide +kernel
theorem dX10_found_15 : decode cX10_found 15 = .ok (.ifCond .eq 15, 3) := by decide +kernel
theorem dX10_found_18 : decode cX10_found 18 = .ok (.aload_n 0, 1) := by decide +kernel
theorem dX10_found_19 : decode cX10_found 19 = .ok (.iload 4, 2) := by decide +kernel
theorem dX10_found_21 : decode cX10_found 21 = .ok (.invokevirtual 319, 3) := by decide +kernel
theorem dX10_found_24 : decode cX10_found 24 = .ok (.ifCond .ne 19, 3) := by decide +kernel
theorem dX10_found_27 : decode cX10_found 27 = .ok (.goto 28, 3) := by decide +kernel
theorem dX10_found_30 : decode cX10_found 30 = .ok (.aload_n 0, 1) := by decide +kernel
theorem dX10_found_31 : decode cX10_found 31 = .ok (.getfield 58, 3) := by decide +kernel
theorem dX10_found_34 : decode cX10_found 34 = .ok (.iload 4, 2) := by decide +kernel
theorem dX10_found_36 : decode cX10_found 36 = .ok (.baload, 1) := by decide +kernel
theorem dX10_found_37 : decode cX10_found 37 = .ok (.ifCond .eq 6, 3) := by decide +kernel
theorem dX10_found_40 : decode cX10_found 40 = .ok (.goto 15, 3) := by decide +kernel
theorem dX10_found_43 : decode cX10_found 43 = .ok (.iload_n 3, 1) := by decide +kernel
theorem dX10_found_44 : decode cX10_found 44 = .ok (.iload_n 2, 1) := by decide +kernel
theorem dX10_found_45 : decode cX10_found 45 = .ok (.if_icmp .ne 6, 3) := by decide +kernel
theorem dX10_found_48 : decode cX10_found 48 = .ok (.iload 4, 2) := by decide +kernel
theorem dX10_found_50 : decode cX10_found 50 = .ok (.ireturn, 1) := by decide +kernel
theorem dX10_found_51 : decode cX10_found 51 = .ok (.iload_n 3, 1) := by decide +kernel
theorem dX10_found_52 : decode cX10_found 52 = .ok (.iconst 1, 1) := by decide +kernel
theorem dX10_found_53 : decode cX10_found 53 = .ok (.iadd, 1) := by decide +kernel
theorem dX10_found_54 : decode cX10_found 54 = .ok (.istore_n 3, 1) := by decide +kernel
theorem dX10_found_55 : decode cX10_found 55 = .ok (.iinc 4 1, 3) := by decide +kernel
theorem dX10_found_58 : decode cX10_found 58 = .ok (.goto (-53), 3) := by decide +kernel
theorem dX10_found_61 : decode cX10_found 61 = .ok (.iload_n 2, 1) := by decide +kernel
theorem dX10_found_62 : decode cX10_found 62 = .ok (.iconst (-1), 1) := by decide +kernel
theorem dX10_found_63 : decode cX10_found 63 = .ok (.if_icmp .ne 7, 3) := by decide +kernel
theorem dX10_found_66 : decode cX10_found 66 = .ok (.iload_n 3, 1) := by decide +kernel
theorem dX10_found_67 : decode cX10_found 67 = .ok (.goto 4, 3) := by decide +kernel
theorem dX10_found_70 : decode cX10_found 70 = .ok (.iconst (-1), 1) := by decide +kernel
theorem dX10_found_71 : decode cX10_found 71 = .ok (.ireturn, 1) := by decide +kernel
theorem dX10_ofMonomial_0 : decode cX10_ofMonomial 0 = .ok (.iload_n 1, 1) := by decide +kernel
theorem dX10_ofMonomial_1 : decode cX10_ofMonomial 1 = .ok (.iconst (-1), 1) := by decide +kernel
theorem dX10_ofMonomial_2 : decode cX10_ofMonomial 2 = .ok (.if_icmp .eq 16, 3) := by decide +kernel
theorem dX10_ofMonomial_5 : decode cX10_ofMonomial 5 = .ok (.aload_n 0, 1) := by decide +kernel
theorem dX10_ofMonomial_6 : decode cX10_ofMonomial 6 = .ok (.iload_n 2, 1) := by decide +kernel
theorem dX10_ofMonomial_7 : decode cX10_ofMonomial 7 = .ok (.i2l, 1) := by decide +kernel
theorem dX10_ofMonomial_8 : decode cX10_ofMonomial 8 = .ok (.lconst 0, 1) := by decide +kernel
theorem dX10_ofMonomial_9 : decode cX10_ofMonomial 9 = .ok (.ldc2_w 110, 3) := by decide +kernel
theorem dX10_ofMonomial_12 : decode cX10_ofMonomial 12 = .ok (.invokevirtual 106, 3) := by decide +kernel
theorem dX10_ofMonomial_15 : decode cX10_ofMonomial 15 = .ok (.ifCond .ne 5, 3) := by decide +kernel
theorem dX10_ofMonomial_18 : decode cX10_ofMonomial 18 = .ok (.iconst (-1), 1) := by decide +kernel
theorem dX10_ofMonomial_19 : decode cX10_ofMonomial 19 = .ok (.ireturn, 1) := by decide +kernel
theorem dX10_ofMonomial_20 : decode cX10_ofMonomial 20 = .ok (.iload_n 2, 1) := by decide +kernel
theorem dX10_ofMonomial_21 : decode cX10_ofMonomial 21 = .ok (.iconst 3, 1) := by decide +kernel
theorem dX10_ofMonomial_22 : decode cX10_ofMonomial 22 = .ok (.if_icmp .ne 11, 3) := by decide +kernel
theorem dX10_ofMonomial_25 : decode cX10_ofMonomial 25 = .ok (.aload_n 0, 1) := by decide +kernel
theorem dX10_ofMonomial_26 : decode cX10_ofMonomial 26 = .ok (.iload_n 1, 1) := by decide +kernel
theorem dX10_ofMonomial_27 : decode cX10_ofMonomial 27 = .ok (.invokevirtual 295, 3) := by decide +kernel
theorem dX10_ofMonomial_30 : decode cX10_ofMonomial 30 = .ok (.goto 13, 3) := by decide +kernel
theorem dX10_ofMonomial_33 : decode cX10_ofMonomial 33 = .ok (.aload_n 0, 1) := by decide +kernel
theorem dX10_ofMonomial_34 : decode cX10_ofMonomial 34 = .ok (.getfield 52, 3) := by decide +kernel
theorem dX10_ofMonomial_37 : decode cX10_ofMonomial 37 = .ok (.iconst 3, 1) := by decide +kernel
theorem dX10_ofMonomial_38 : decode cX10_ofMonomial 38 = .ok (.iload_n 1, 1) := by decide +kernel
theorem dX10_ofMonomial_39 : decode cX10_ofMonomial 39 = .ok (.imul, 1) := by decide +kernel
theorem dX10_ofMonomial_40 : decode cX10_ofMonomial 40 = .ok (.iload_n 2, 1) := by decide +kernel
theorem dX10_ofMonomial_41 : decode cX10_ofMonomial 41 = .ok (.iadd, 1) := by decide +kernel
theorem dX10_ofMonomial_42 : decode cX10_ofMonomial 42 = .ok (.iaload, 1) := by decide +kernel
theorem dX10_ofMonomial_43 : decode cX10_ofMonomial 43 = .ok (.ireturn, 1) := by decide +kernel
theorem dX10_corners_0 : decode cX10_corners 0 = .ok (.aload_n 0, 1) := by decide +kernel
theorem dX10_corners_1 : decode cX10_corners 1 = .ok (.iconst 0, 1) := by decide +kernel
theorem dX10_corners_2 : decode cX10_corners 2 = .ok (.putfield 65, 3) := by decide +kernel
theorem dX10_corners_5 : decode cX10_corners 5 = .ok (.aload_n 0, 1) := by decide +kernel
theorem dX10_corners_6 : decode cX10_corners 6 = .ok (.iload_n 1, 1) := by decide +kernel
theorem dX10_corners_7 : decode cX10_corners 7 = .ok (.iload_n 2, 1) := by decide +kernel
theorem dX10_corners_8 : decode cX10_corners 8 = .ok (.invokevirtual 322, 3) := by decide +kernel
theorem dX10_corners_11 : decode cX10_corners 11 = .ok (.ifCond .ne 5, 3) := by decide +kernel
theorem dX10_corners_14 : decode cX10_corners 14 = .ok (.iconst (-1), 1) := by decide +kernel
theorem dX10_corners_15 : decode cX10_corners 15 = .ok (.ireturn, 1) := by decide +kernel
theorem dX10_corners_16 : decode cX10_corners 16 = .ok (.aload_n 0, 1) := by decide +kernel
theorem dX10_corners_17 : decode cX10_corners 17 = .ok (.iload_n 1, 1) := by decide +kernel
theorem dX10_corners_18 : decode cX10_corners 18 = .ok (.iload_n 2, 1) := by decide +kernel
theorem dX10_corners_19 : decode cX10_corners 19 = .ok (.invokevirtual 325, 3) := by decide +kernel
theorem dX10_corners_22 : decode cX10_corners 22 = .ok (.aload_n 0, 1) := by decide +kernel
theorem dX10_corners_23 : decode cX10_corners 23 = .ok (.iconst 1, 1) := by decide +kernel
theorem dX10_corners_24 : decode cX10_corners 24 = .ok (.iconst (-1), 1) := by decide +kernel
theorem dX10_corners_25 : decode cX10_corners 25 = .ok (.invokevirtual 328, 3) := by decide +kernel
theorem dX10_corners_28 : decode cX10_corners 28 = .ok (.ireturn, 1) := by decide +kernel
theorem dX10_corner_0 : decode cX10_corner 0 = .ok (.aload_n 0, 1) := by decide +kernel
theorem dX10_corner_1 : decode cX10_corner 1 = .ok (.iconst 0, 1) := by decide +kernel
theorem dX10_corner_2 : decode cX10_corner 2 = .ok (.putfield 65, 3) := by decide +kernel
theorem dX10_corner_5 : decode cX10_corner 5 = .ok (.aload_n 0, 1) := by decide +kernel
theorem dX10_corner_6 : decode cX10_corner 6 = .ok (.iload_n 1, 1) := by decide +kernel
theorem dX10_corner_7 : decode cX10_corner 7 = .ok (.iload_n 2, 1) := by decide +kernel
theorem dX10_corner_8 : decode cX10_corner 8 = .ok (.invokevirtual 322, 3) := by decide +kernel
theorem dX10_corner_11 : decode cX10_corner 11 = .ok (.ifCond .eq 7, 3) := by decide +kernel
theorem dX10_corner_14 : decode cX10_corner 14 = .ok (.iload_n 3, 1) := by decide +kernel
theorem dX10_corner_15 : decode cX10_corner 15 = .ok (.ifCond .ge 5, 3) := by decide +kernel
theorem dX10_corner_18 : decode cX10_corner 18 = .ok (.iconst (-1), 1) := by decide +kernel
theorem dX10_corner_19 : decode cX10_corner 19 = .ok (.ireturn, 1) := by decide +kernel
theorem dX10_corner_20 : decode cX10_corner 20 = .ok (.aload_n 0, 1) := by decide +kernel
theorem dX10_corner_21 : decode cX10_corner 21 = .ok (.iload_n 1, 1) := by decide +kernel
theorem dX10_corner_22 : decode cX10_corner 22 = .ok (.iload_n 2, 1) := by decide +kernel
theorem dX10_corner_23 : decode cX10_corner 23 = .ok (.invokevirtual 325, 3) := by decide +kernel
theorem dX10_corner_26 : decode cX10_corner 26 = .ok (.aload_n 0, 1) := by decide +kernel
theorem dX10_corner_27 : decode cX10_corner 27 = .ok (.aload_n 0, 1) := by decide +kernel
theorem dX10_corner_28 : decode cX10_corner 28 = .ok (.iconst 1, 1) := by decide +kernel
theorem dX10_corner_29 : decode cX10_corner 29 = .ok (.iload_n 3, 1) := by decide +kernel
theorem dX10_corner_30 : decode cX10_corner 30 = .ok (.invokevirtual 328, 3) := by decide +kernel
theorem dX10_corner_33 : decode cX10_corner 33 = .ok (.iload 4, 2) := by decide +kernel
theorem dX10_corner_35 : decode cX10_corner 35 = .ok (.invokevirtual 332, 3) := by decide +kernel
theorem dX10_corner_38 : decode cX10_corner 38 = .ok (.ireturn, 1) := by decide +kernel
theorem dX10_stairs_0 : decode cX10_stairs 0 = .ok (.aload_n 0, 1) := by decide +kernel
theorem dX10_stairs_1 : decode cX10_stairs 1 = .ok (.iconst 0, 1) := by decide +kernel
theorem dX10_stairs_2 : decode cX10_stairs 2 = .ok (.putfield 65, 3) := by decide +kernel
theorem dX10_stairs_5 : decode cX10_stairs 5 = .ok (.aload_n 0, 1) := by decide +kernel
theorem dX10_stairs_6 : decode cX10_stairs 6 = .ok (.iload_n 1, 1) := by decide +kernel
theorem dX10_stairs_7 : decode cX10_stairs 7 = .ok (.iload_n 2, 1) := by decide +kernel
theorem dX10_stairs_8 : decode cX10_stairs 8 = .ok (.invokevirtual 322, 3) := by decide +kernel
theorem dX10_stairs_11 : decode cX10_stairs 11 = .ok (.ifCond .eq 19, 3) := by decide +kernel
theorem dX10_stairs_14 : decode cX10_stairs 14 = .ok (.aload_n 0, 1) := by decide +kernel
theorem dX10_stairs_15 : decode cX10_stairs 15 = .ok (.iload_n 3, 1) := by decide +kernel
theorem dX10_stairs_16 : decode cX10_stairs 16 = .ok (.i2l, 1) := by decide +kernel
theorem dX10_stairs_17 : decode cX10_stairs 17 = .ok (.ldc2_w 335, 3) := by decide +kernel
theorem dX10_stairs_20 : decode cX10_stairs 20 = .ok (.iload_n 2, 1) := by decide +kernel
theorem dX10_stairs_21 : decode cX10_stairs 21 = .ok (.i2l, 1) := by decide +kernel
theorem dX10_stairs_22 : decode cX10_stairs 22 = .ok (.lconst 1, 1) := by decide +kernel
theorem dX10_stairs_23 : decode cX10_stairs 23 = .ok (.lsub, 1) := by decide +kernel
theorem dX10_stairs_24 : decode cX10_stairs 24 = .ok (.invokevirtual 106, 3) := by decide +kernel
theorem dX10_stairs_27 : decode cX10_stairs 27 = .ok (.ifCond .ne 5, 3) := by decide +kernel
theorem dX10_stairs_30 : decode cX10_stairs 30 = .ok (.iconst (-1), 1) := by decide +kernel
theorem dX10_stairs_31 : decode cX10_stairs 31 = .ok (.ireturn, 1) := by decide +kernel
theorem dX10_stairs_32 : decode cX10_stairs 32 = .ok (.aload_n 0, 1) := by decide +kernel
theorem dX10_stairs_33 : decode cX10_stairs 33 = .ok (.iload_n 1, 1) := by decide +kernel
theorem dX10_stairs_34 : decode cX10_stairs 34 = .ok (.iload_n 2, 1) := by decide +kernel
theorem dX10_stairs_35 : decode cX10_stairs 35 = .ok (.invokevirtual 325, 3) := by decide +kernel
theorem dX10_stairs_38 : decode cX10_stairs 38 = .ok (.iload_n 3, 1) := by decide +kernel
theorem dX10_stairs_39 : decode cX10_stairs 39 = .ok (.iconst (-1), 1) := by decide +kernel
theorem dX10_stairs_40 : decode cX10_stairs 40 = .ok (.if_icmp .ne 10, 3) := by decide +kernel
theorem dX10_stairs_43 : decode cX10_stairs 43 = .ok (.aload_n 0, 1) := by decide +kernel
theorem dX10_stairs_44 : decode cX10_stairs 44 = .ok (.iconst 0, 1) := by decide +kernel
theorem dX10_stairs_45 : decode cX10_stairs 45 = .ok (.iconst (-1), 1) := by decide +kernel
theorem dX10_stairs_46 : decode cX10_stairs 46 = .ok (.invokevirtual 328, 3) := by decide +kernel
theorem dX10_stairs_49 : decode cX10_stairs 49 = .ok (.ireturn, 1) := by decide +kernel
theorem dX10_stairs_50 : decode cX10_stairs 50 = .ok (.iconst 0, 1) := by decide +kernel
theorem dX10_stairs_51 : decode cX10_stairs 51 = .ok (.istore 4, 2) := by decide +kernel
theorem dX10_stairs_53 : decode cX10_stairs 53 = .ok (.iconst 0, 1) := by decide +kernel
theorem dX10_stairs_54 : decode cX10_stairs 54 = .ok (.istore 5, 2) := by decide +kernel
theorem dX10_stairs_56 : decode cX10_stairs 56 = .ok (.iload 5, 2) := by decide +kernel
theorem dX10_stairs_58 : decode cX10_stairs 58 = .ok (.aload_n 0, 1) := by decide +kernel
theorem dX10_stairs_59 : decode cX10_stairs 59 = .ok (.getfield 283, 3) := by decide +kernel
theorem dX10_stairs_62 : decode cX10_stairs 62 = .ok (.if_icmp .ge 35, 3) := by decide +kernel
theorem dX10_stairs_65 : decode cX10_stairs 65 = .ok (.aload_n 0, 1) := by decide +kernel
theorem dX10_stairs_66 : decode cX10_stairs 66 = .ok (.getfield 58, 3) := by decide +kernel
theorem dX10_stairs_69 : decode cX10_stairs 69 = .ok (.iload 5, 2) := by decide +kernel
theorem dX10_stairs_71 : decode cX10_stairs 71 = .ok (.baload, 1) := by decide +kernel
theorem dX10_stairs_72 : decode cX10_stairs 72 = .ok (.ifCond .ne 19, 3) := by decide +kernel
theorem dX10_stairs_75 : decode cX10_stairs 75 = .ok (.aload_n 0, 1) := by decide +kernel
theorem dX10_stairs_76 : decode cX10_stairs 76 = .ok (.iload 5, 2) := by decide +kernel
theorem dX10_stairs_78 : decode cX10_stairs 78 = .ok (.invokevirtual 295, 3) := by decide +kernel
theorem dX10_stairs_81 : decode cX10_stairs 81 = .ok (.iload_n 3, 1) := by decide +kernel
theorem dX10_stairs_82 : decode cX10_stairs 82 = .ok (.if_icmp .ne 9, 3) := by decide +kernel
theorem dX10_stairs_85 : decode cX10_stairs 85 = .ok (.iload 4, 2) := by decide +kernel
theorem dX10_stairs_87 : decode cX10_stairs 87 = .ok (.iconst 1, 1) := by decide +kernel
theorem dX10_stairs_88 : decode cX10_stairs 88 = .ok (.iadd, 1) := by decide +kernel
theorem dX10_stairs_89 : decode cX10_stairs 89 = .ok (.istore 4, 2) := by decide +kernel
theorem dX10_stairs_91 : decode cX10_stairs 91 = .ok (.iinc 5 1, 3) := by decide +kernel
theorem dX10_stairs_94 : decode cX10_stairs 94 = .ok (.goto (-38), 3) := by decide +kernel
theorem dX10_stairs_97 : decode cX10_stairs 97 = .ok (.iload 4, 2) := by decide +kernel
theorem dX10_stairs_99 : decode cX10_stairs 99 = .ok (.ireturn, 1) := by decide +kernel
theorem dX10_stair_0 : decode cX10_stair 0 = .ok (.aload_n 0, 1) := by decide +kernel
theorem dX10_stair_1 : decode cX10_stair 1 = .ok (.iconst 0, 1) := by decide +kernel
theorem dX10_stair_2 : decode cX10_stair 2 = .ok (.putfield 65, 3) := by decide +kernel
theorem dX10_stair_5 : decode cX10_stair 5 = .ok (.aload_n 0, 1) := by decide +kernel
theorem dX10_stair_6 : decode cX10_stair 6 = .ok (.iload_n 1, 1) := by decide +kernel
theorem dX10_stair_7 : decode cX10_stair 7 = .ok (.iload_n 2, 1) := by decide +kernel
theorem dX10_stair_8 : decode cX10_stair 8 = .ok (.invokevirtual 322, 3) := by decide +kernel
theorem dX10_stair_11 : decode cX10_stair 11 = .ok (.ifCond .eq 7, 3) := by decide +kernel
theorem dX10_stair_14 : decode cX10_stair 14 = .ok (.iload_n 3, 1) := by decide +kernel
theorem dX10_stair_15 : decode cX10_stair 15 = .ok (.ifCond .ge 5, 3) := by decide +kernel
theorem dX10_stair_18 : decode cX10_stair 18 = .ok (.iconst (-1), 1) := by decide +kernel
theorem dX10_stair_19 : decode cX10_stair 19 = .ok (.ireturn, 1) := by decide +kernel
theorem dX10_stair_20 : decode cX10_stair 20 = .ok (.aload_n 0, 1) := by decide +kernel
theorem dX10_stair_21 : decode cX10_stair 21 = .ok (.iload_n 1, 1) := by decide +kernel
theorem dX10_stair_22 : decode cX10_stair 22 = .ok (.iload_n 2, 1) := by decide +kernel
theorem dX10_stair_23 : decode cX10_stair 23 = .ok (.invokevirtual 325, 3) := by decide +kernel
theorem dX10_stair_26 : decode cX10_stair 26 = .ok (.aload_n 0, 1) := by decide +kernel
theorem dX10_stair_27 : decode cX10_stair 27 = .ok (.aload_n 0, 1) := by decide +kernel
theorem dX10_stair_28 : decode cX10_stair 28 = .ok (.iconst 0, 1) := by decide +kernel
theorem dX10_stair_29 : decode cX10_stair 29 = .ok (.iload_n 3, 1) := by decide +kernel
theorem dX10_stair_30 : decode cX10_stair 30 = .ok (.invokevirtual 328, 3) := by decide +kernel
theorem dX10_stair_33 : decode cX10_stair 33 = .ok (.iload 4, 2) := by decide +kernel
theorem dX10_stair_35 : decode cX10_stair 35 = .ok (.invokevirtual 332, 3) := by decide +kernel
theorem dX10_stair_38 : decode cX10_stair 38 = .ok (.ireturn, 1) := by decide +kernel
theorem dX10_rest_0 : decode cX10_rest 0 = .ok (.aload_n 0, 1) := by decide +kernel
theorem dX10_rest_1 : decode cX10_rest 1 = .ok (.iconst 0, 1) := by decide +kernel
theorem dX10_rest_2 : decode cX10_rest 2 = .ok (.putfield 65, 3) := by decide +kernel
theorem dX10_rest_5 : decode cX10_rest 5 = .ok (.aload_n 0, 1) := by decide +kernel
theorem dX10_rest_6 : decode cX10_rest 6 = .ok (.iload_n 1, 1) := by decide +kernel
theorem dX10_rest_7 : decode cX10_rest 7 = .ok (.invokevirtual 188, 3) := by decide +kernel
theorem dX10_rest_10 : decode cX10_rest 10 = .ok (.ifCond .eq 21, 3) := by decide +kernel
theorem dX10_rest_13 : decode cX10_rest 13 = .ok (.aload_n 0, 1) := by decide +kernel
theorem dX10_rest_14 : decode cX10_rest 14 = .ok (.iload 4, 2) := by decide +kernel
theorem dX10_rest_16 : decode cX10_rest 16 = .ok (.invokevirtual 188, 3) := by decide +kernel
theorem dX10_rest_19 : decode cX10_rest 19 = .ok (.ifCond .eq 12, 3) := by decide +kernel
theorem dX10_rest_22 : decode cX10_rest 22 = .ok (.aload_n 0, 1) := by decide +kernel
theorem dX10_rest_23 : decode cX10_rest 23 = .ok (.iload_n 2, 1) := by decide +kernel
theorem dX10_rest_24 : decode cX10_rest 24 = .ok (.iload_n 3, 1) := by decide +kernel
theorem dX10_rest_25 : decode cX10_rest 25 = .ok (.invokevirtual 322, 3) := by decide +kernel
theorem dX10_rest_28 : decode cX10_rest 28 = .ok (.ifCond .ne 5, 3) := by decide +kernel
theorem dX10_rest_31 : decode cX10_rest 31 = .ok (.iconst (-1), 1) := by decide +kernel
theorem dX10_rest_32 : decode cX10_rest 32 = .ok (.ireturn, 1) := by decide +kernel
theorem dX10_rest_33 : decode cX10_rest 33 = .ok (.aload_n 0, 1) := by decide +kernel
theorem dX10_rest_34 : decode cX10_rest 34 = .ok (.iload_n 2, 1) := by decide +kernel
theorem dX10_rest_35 : decode cX10_rest 35 = .ok (.iload_n 3, 1) := by decide +kernel
theorem dX10_rest_36 : decode cX10_rest 36 = .ok (.invokevirtual 325, 3) := by decide +kernel
theorem dX10_rest_39 : decode cX10_rest 39 = .ok (.aload_n 0, 1) := by decide +kernel
theorem dX10_rest_40 : decode cX10_rest 40 = .ok (.iload_n 1, 1) := by decide +kernel
theorem dX10_rest_41 : decode cX10_rest 41 = .ok (.iconst 0, 1) := by decide +kernel
theorem dX10_rest_42 : decode cX10_rest 42 = .ok (.iconst 0, 1) := by decide +kernel
theorem dX10_rest_43 : decode cX10_rest 43 = .ok (.iconst 0, 1) := by decide +kernel
theorem dX10_rest_44 : decode cX10_rest 44 = .ok (.invokevirtual 298, 3) := by decide +kernel
theorem dX10_rest_47 : decode cX10_rest 47 = .ok (.aload_n 0, 1) := by decide +kernel
theorem dX10_rest_48 : decode cX10_rest 48 = .ok (.invokevirtual 292, 3) := by decide +kernel
theorem dX10_rest_51 : decode cX10_rest 51 = .ok (.aload_n 0, 1) := by decide +kernel
theorem dX10_rest_52 : decode cX10_rest 52 = .ok (.iconst 0, 1) := by decide +kernel
theorem dX10_rest_53 : decode cX10_rest 53 = .ok (.putfield 93, 3) := by decide +kernel
theorem dX10_rest_56 : decode cX10_rest 56 = .ok (.iconst 0, 1) := by decide +kernel
theorem dX10_rest_57 : decode cX10_rest 57 = .ok (.istore 5, 2) := by decide +kernel
theorem dX10_rest_59 : decode cX10_rest 59 = .ok (.iload 5, 2) := by decide +kernel
theorem dX10_rest_61 : decode cX10_rest 61 = .ok (.aload_n 0, 1) := by decide +kernel
theorem dX10_rest_62 : decode cX10_rest 62 = .ok (.getfield 283, 3) := by decide +kernel
theorem dX10_rest_65 : decode cX10_rest 65 = .ok (.if_icmp .ge 51, 3) := by decide +kernel
theorem dX10_rest_68 : decode cX10_rest 68 = .ok (.aload_n 0, 1) := by decide +kernel
theorem dX10_rest_69 : decode cX10_rest 69 = .ok (.aload_n 0, 1) := by decide +kernel
theorem dX10_rest_70 : decode cX10_rest 70 = .ok (.getfield 62, 3) := by decide +kernel
theorem dX10_rest_73 : decode cX10_rest 73 = .ok (.iload 5, 2) := by decide +kernel
theorem dX10_rest_75 : decode cX10_rest 75 = .ok (.iaload, 1) := by decide +kernel
theorem dX10_rest_76 : decode cX10_rest 76 = .ok (.aload_n 0, 1) := by decide +kernel
theorem dX10_rest_77 : decode cX10_rest 77 = .ok (.getfield 52, 3) := by decide +kernel
theorem dX10_rest_80 : decode cX10_rest 80 = .ok (.iconst 3, 1) := by decide +kernel
theorem dX10_rest_81 : decode cX10_rest 81 = .ok (.iload 5, 2) := by decide +kernel
theorem dX10_rest_83 : decode cX10_rest 83 = .ok (.imul, 1) := by decide +kernel
theorem dX10_rest_84 : decode cX10_rest 84 = .ok (.iaload, 1) := by decide +kernel
theorem dX10_rest_85 : decode cX10_rest 85 = .ok (.aload_n 0, 1) := by decide +kernel
theorem dX10_rest_86 : decode cX10_rest 86 = .ok (.getfield 52, 3) := by decide +kernel
theorem dX10_rest_89 : decode cX10_rest 89 = .ok (.iconst 3, 1) := by decide +kernel
theorem dX10_rest_90 : decode cX10_rest 90 = .ok (.iload 5, 2) := by decide +kernel
theorem dX10_rest_92 : decode cX10_rest 92 = .ok (.imul, 1) := by decide +kernel
theorem dX10_rest_93 : decode cX10_rest 93 = .ok (.iconst 1, 1) := by decide +kernel
theorem dX10_rest_94 : decode cX10_rest 94 = .ok (.iadd, 1) := by decide +kernel
theorem dX10_rest_95 : decode cX10_rest 95 = .ok (.iaload, 1) := by decide +kernel
theorem dX10_rest_96 : decode cX10_rest 96 = .ok (.aload_n 0, 1) := by decide +kernel
theorem dX10_rest_97 : decode cX10_rest 97 = .ok (.getfield 52, 3) := by decide +kernel
theorem dX10_rest_100 : decode cX10_rest 100 = .ok (.iconst 3, 1) := by decide +kernel
theorem dX10_rest_101 : decode cX10_rest 101 = .ok (.iload 5, 2) := by decide +kernel
theorem dX10_rest_103 : decode cX10_rest 103 = .ok (.imul, 1) := by decide +kernel
theorem dX10_rest_104 : decode cX10_rest 104 = .ok (.iconst 2, 1) := by decide +kernel
theorem dX10_rest_105 : decode cX10_rest 105 = .ok (.iadd, 1) := by decide +kernel
theorem dX10_rest_106 : decode cX10_rest 106 = .ok (.iaload, 1) := by decide +kernel
theorem dX10_rest_107 : decode cX10_rest 107 = .ok (.invokevirtual 100, 3) := by decide +kernel
theorem dX10_rest_110 : decode cX10_rest 110 = .ok (.iinc 5 1, 3) := by decide +kernel
theorem dX10_rest_113 : decode cX10_rest 113 = .ok (.goto (-54), 3) := by decide +kernel
theorem dX10_rest_116 : decode cX10_rest 116 = .ok (.aload_n 0, 1) := by decide +kernel
theorem dX10_rest_117 : decode cX10_rest 117 = .ok (.iload 4, 2) := by decide +kernel
theorem dX10_rest_119 : decode cX10_rest 119 = .ok (.invokevirtual 128, 3) := by decide +kernel
theorem dX10_rest_122 : decode cX10_rest 122 = .ok (.ifCond .eq 13, 3) := by decide +kernel
theorem dX10_rest_125 : decode cX10_rest 125 = .ok (.aload_n 0, 1) := by decide +kernel
theorem dX10_rest_126 : decode cX10_rest 126 = .ok (.getfield 20, 3) := by decide +kernel
theorem dX10_rest_129 : decode cX10_rest 129 = .ok (.iload 4, 2) := by decide +kernel
theorem dX10_rest_131 : decode cX10_rest 131 = .ok (.iaload, 1) := by decide +kernel
theorem dX10_rest_132 : decode cX10_rest 132 = .ok (.goto 4, 3) := by decide +kernel
theorem dX10_rest_135 : decode cX10_rest 135 = .ok (.iconst (-1), 1) := by decide +kernel
theorem dX10_rest_136 : decode cX10_rest 136 = .ok (.ireturn, 1) := by decide +kernel
theorem dX10_greatestWeight_0 : decode cX10_greatestWeight 0 = .ok (.aload_n 0, 1) := by decide +kernel
theorem dX10_greatestWeight_1 : decode cX10_greatestWeight 1 = .ok (.getfield 16, 3) := by decide +kernel
theorem dX10_greatestWeight_4 : decode cX10_greatestWeight 4 = .ok (.iconst 0, 1) := by decide +kernel
theorem dX10_greatestWeight_5 : decode cX10_greatestWeight 5 = .ok (.iaload, 1) := by decide +kernel
theorem dX10_greatestWeight_6 : decode cX10_greatestWeight 6 = .ok (.istore_n 1, 1) := by decide +kernel
theorem dX10_greatestWeight_7 : decode cX10_greatestWeight 7 = .ok (.iconst 1, 1) := by decide +kernel
theorem dX10_greatestWeight_8 : decode cX10_greatestWeight 8 = .ok (.istore_n 2, 1) := by decide +kernel
theorem dX10_greatestWeight_9 : decode cX10_greatestWeight 9 = .ok (.iload_n 2, 1) := by decide +kernel
theorem dX10_greatestWeight_10 : decode cX10_greatestWeight 10 = .ok (.aload_n 0, 1) := by decide +kernel
theorem dX10_greatestWeight_11 : decode cX10_greatestWeight 11 = .ok (.getfield 7, 3) := by decide +kernel
theorem dX10_greatestWeight_14 : decode cX10_greatestWeight 14 = .ok (.if_icmp .ge 30, 3) := by decide +kernel
theorem dX10_greatestWeight_17 : decode cX10_greatestWeight 17 = .ok (.aload_n 0, 1) := by decide +kernel
theorem dX10_greatestWeight_18 : decode cX10_greatestWeight 18 = .ok (.getfield 16, 3) := by decide +kernel
theorem dX10_greatestWeight_21 : decode cX10_greatestWeight 21 = .ok (.iload_n 2, 1) := by decide +kernel
theorem dX10_greatestWeight_22 : decode cX10_greatestWeight 22 = .ok (.iaload, 1) := by decide +kernel
theorem dX10_greatestWeight_23 : decode cX10_greatestWeight 23 = .ok (.iload_n 1, 1) := by decide +kernel
theorem dX10_greatestWeight_24 : decode cX10_greatestWeight 24 = .ok (.if_icmp .le 12, 3) := by decide +kernel
theorem dX10_greatestWeight_27 : decode cX10_greatestWeight 27 = .ok (.aload_n 0, 1) := by decide +kernel
theorem dX10_greatestWeight_28 : decode cX10_greatestWeight 28 = .ok (.getfield 16, 3) := by decide +kernel
theorem dX10_greatestWeight_31 : decode cX10_greatestWeight 31 = .ok (.iload_n 2, 1) := by decide +kernel
theorem dX10_greatestWeight_32 : decode cX10_greatestWeight 32 = .ok (.iaload, 1) := by decide +kernel
theorem dX10_greatestWeight_33 : decode cX10_greatestWeight 33 = .ok (.goto 4, 3) := by decide +kernel
theorem dX10_greatestWeight_36 : decode cX10_greatestWeight 36 = .ok (.iload_n 1, 1) := by decide +kernel
theorem dX10_greatestWeight_37 : decode cX10_greatestWeight 37 = .ok (.istore_n 1, 1) := by decide +kernel
theorem dX10_greatestWeight_38 : decode cX10_greatestWeight 38 = .ok (.iinc 2 1, 3) := by decide +kernel
theorem dX10_greatestWeight_41 : decode cX10_greatestWeight 41 = .ok (.goto (-32), 3) := by decide +kernel
theorem dX10_greatestWeight_44 : decode cX10_greatestWeight 44 = .ok (.iload_n 1, 1) := by decide +kernel
theorem dX10_greatestWeight_45 : decode cX10_greatestWeight 45 = .ok (.ireturn, 1) := by decide +kernel
theorem dX10_isSettled_0 : decode cX10_isSettled 0 = .ok (.iconst 0, 1) := by decide +kernel
theorem dX10_isSettled_1 : decode cX10_isSettled 1 = .ok (.istore_n 2, 1) := by decide +kernel
theorem dX10_isSettled_2 : decode cX10_isSettled 2 = .ok (.iload_n 2, 1) := by decide +kernel
theorem dX10_isSettled_3 : decode cX10_isSettled 3 = .ok (.aload_n 0, 1) := by decide +kernel
theorem dX10_isSettled_4 : decode cX10_isSettled 4 = .ok (.getfield 283, 3) := by decide +kernel
theorem dX10_isSettled_7 : decode cX10_isSettled 7 = .ok (.if_icmp .ge 34, 3) := by decide +kernel
theorem dX10_isSettled_10 : decode cX10_isSettled 10 = .ok (.aload_n 0, 1) := by decide +kernel
theorem dX10_isSettled_11 : decode cX10_isSettled 11 = .ok (.getfield 58, 3) := by decide +kernel
theorem dX10_isSettled_14 : decode cX10_isSettled 14 = .ok (.iload_n 2, 1) := by decide +kernel
theorem dX10_isSettled_15 : decode cX10_isSettled 15 = .ok (.baload, 1) := by decide +kernel
theorem dX10_isSettled_16 : decode cX10_isSettled 16 = .ok (.ifCond .ne 19, 3) := by decide +kernel
theorem dX10_isSettled_19 : decode cX10_isSettled 19 = .ok (.aload_n 0, 1) := by decide +kernel
theorem dX10_isSettled_20 : decode cX10_isSettled 20 = .ok (.iload_n 2, 1) := by decide +kernel
theorem dX10_isSettled_21 : decode cX10_isSettled 21 = .ok (.invokevirtual 295, 3) := by decide +kernel
theorem dX10_isSettled_24 : decode cX10_isSettled 24 = .ok (.iload_n 1, 1) := by decide +kernel
theorem dX10_isSettled_25 : decode cX10_isSettled 25 = .ok (.aload_n 0, 1) := by decide +kernel
theorem dX10_isSettled_26 : decode cX10_isSettled 26 = .ok (.invokevirtual 337, 3) := by decide +kernel
theorem dX10_isSettled_29 : decode cX10_isSettled 29 = .ok (.isub, 1) := by decide +kernel
theorem dX10_isSettled_30 : decode cX10_isSettled 30 = .ok (.if_icmp .lt 5, 3) := by decide +kernel
theorem dX10_isSettled_33 : decode cX10_isSettled 33 = .ok (.iconst 0, 1) := by decide +kernel
theorem dX10_isSettled_34 : decode cX10_isSettled 34 = .ok (.ireturn, 1) := by decide +kernel
theorem dX10_isSettled_35 : decode cX10_isSettled 35 = .ok (.iinc 2 1, 3) := by decide +kernel
theorem dX10_isSettled_38 : decode cX10_isSettled 38 = .ok (.goto (-36), 3) := by decide +kernel
theorem dX10_isSettled_41 : decode cX10_isSettled 41 = .ok (.iconst 1, 1) := by decide +kernel
theorem dX10_isSettled_42 : decode cX10_isSettled 42 = .ok (.ireturn, 1) := by decide +kernel
theorem dX10_length_0 : decode cX10_length 0 = .ok (.aload_n 0, 1) := by decide +kernel
theorem dX10_length_1 : decode cX10_length 1 = .ok (.iconst 0, 1) := by decide +kernel
theorem dX10_length_2 : decode cX10_length 2 = .ok (.putfield 65, 3) := by decide +kernel
theorem dX10_length_5 : decode cX10_length 5 = .ok (.aload_n 0, 1) := by decide +kernel
theorem dX10_length_6 : decode cX10_length 6 = .ok (.iload_n 1, 1) := by decide +kernel
theorem dX10_length_7 : decode cX10_length 7 = .ok (.i2l, 1) := by decide +kernel
theorem dX10_length_8 : decode cX10_length 8 = .ok (.lconst 0, 1) := by decide +kernel
theorem dX10_length_9 : decode cX10_length 9 = .ok (.ldc2_w 267, 3) := by decide +kernel
theorem dX10_length_12 : decode cX10_length 12 = .ok (.invokevirtual 106, 3) := by decide +kernel
theorem dX10_length_15 : decode cX10_length 15 = .ok (.ifCond .eq 14, 3) := by decide +kernel
theorem dX10_length_18 : decode cX10_length 18 = .ok (.aload_n 0, 1) := by decide +kernel
theorem dX10_length_19 : decode cX10_length 19 = .ok (.iload_n 2, 1) := by decide +kernel
theorem dX10_length_20 : decode cX10_length 20 = .ok (.i2l, 1) := by decide +kernel
theorem dX10_length_21 : decode cX10_length 21 = .ok (.lconst 0, 1) := by decide +kernel
theorem dX10_length_22 : decode cX10_length 22 = .ok (.lconst 1, 1) := by decide +kernel
theorem dX10_length_23 : decode cX10_length 23 = .ok (.invokevirtual 106, 3) := by decide +kernel
theorem dX10_length_26 : decode cX10_length 26 = .ok (.ifCond .ne 5, 3) := by decide +kernel
theorem dX10_length_29 : decode cX10_length 29 = .ok (.iconst (-1), 1) := by decide +kernel
theorem dX10_length_30 : decode cX10_length 30 = .ok (.ireturn, 1) := by decide +kernel
theorem dX10_length_31 : decode cX10_length 31 = .ok (.iconst 1, 1) := by decide +kernel
theorem dX10_length_32 : decode cX10_length 32 = .ok (.istore_n 3, 1) := by decide +kernel
theorem dX10_length_33 : decode cX10_length 33 = .ok (.iload_n 3, 1) := by decide +kernel
theorem dX10_length_34 : decode cX10_length 34 = .ok (.aload_n 0, 1) := by decide +kernel
theorem dX10_length_35 : decode cX10_length 35 = .ok (.invokevirtual 313, 3) := by decide +kernel
theorem dX10_length_38 : decode cX10_length 38 = .ok (.if_icmp .gt 38, 3) := by decide +kernel
theorem dX10_length_41 : decode cX10_length 41 = .ok (.aload_n 0, 1) := by decide +kernel
theorem dX10_length_42 : decode cX10_length 42 = .ok (.iload_n 1, 1) := by decide +kernel
theorem dX10_length_43 : decode cX10_length 43 = .ok (.iload_n 3, 1) := by decide +kernel
theorem dX10_length_44 : decode cX10_length 44 = .ok (.invokevirtual 325, 3) := by decide +kernel
theorem dX10_length_47 : decode cX10_length 47 = .ok (.aload_n 0, 1) := by decide +kernel
theorem dX10_length_48 : decode cX10_length 48 = .ok (.iload_n 3, 1) := by decide +kernel
theorem dX10_length_49 : decode cX10_length 49 = .ok (.invokevirtual 340, 3) := by decide +kernel
theorem dX10_length_52 : decode cX10_length 52 = .ok (.ifCond .eq 18, 3) := by decide +kernel
theorem dX10_length_55 : decode cX10_length 55 = .ok (.iload_n 2, 1) := by decide +kernel
theorem dX10_length_56 : decode cX10_length 56 = .ok (.ifCond .ne 7, 3) := by decide +kernel
theorem dX10_length_59 : decode cX10_length 59 = .ok (.iload_n 3, 1) := by decide +kernel
theorem dX10_length_60 : decode cX10_length 60 = .ok (.goto 9, 3) := by decide +kernel
theorem dX10_length_63 : decode cX10_length 63 = .ok (.aload_n 0, 1) := by decide +kernel
theorem dX10_length_64 : decode cX10_length 64 = .ok (.iconst 0, 1) := by decide +kernel
theorem dX10_length_65 : decode cX10_length 65 = .ok (.iconst (-1), 1) := by decide +kernel
theorem dX10_length_66 : decode cX10_length 66 = .ok (.invokevirtual 328, 3) := by decide +kernel
theorem dX10_length_69 : decode cX10_length 69 = .ok (.ireturn, 1) := by decide +kernel
theorem dX10_length_70 : decode cX10_length 70 = .ok (.iinc 3 1, 3) := by decide +kernel
theorem dX10_length_73 : decode cX10_length 73 = .ok (.goto (-40), 3) := by decide +kernel
theorem dX10_length_76 : decode cX10_length 76 = .ok (.iconst (-1), 1) := by decide +kernel
theorem dX10_length_77 : decode cX10_length 77 = .ok (.ireturn, 1) := by decide +kernel
theorem dX10_number_0 : decode cX10_number 0 = .ok (.aload_n 0, 1) := by decide +kernel
theorem dX10_number_1 : decode cX10_number 1 = .ok (.iconst 0, 1) := by decide +kernel
theorem dX10_number_2 : decode cX10_number 2 = .ok (.putfield 65, 3) := by decide +kernel
theorem dX10_number_5 : decode cX10_number 5 = .ok (.aload_n 0, 1) := by decide +kernel
theorem dX10_number_6 : decode cX10_number 6 = .ok (.iload_n 1, 1) := by decide +kernel
theorem dX10_number_7 : decode cX10_number 7 = .ok (.invokevirtual 188, 3) := by decide +kernel
theorem dX10_number_10 : decode cX10_number 10 = .ok (.ifCond .eq 14, 3) := by decide +kernel
theorem dX10_number_13 : decode cX10_number 13 = .ok (.aload_n 0, 1) := by decide +kernel
theorem dX10_number_14 : decode cX10_number 14 = .ok (.iload_n 2, 1) := by decide +kernel
theorem dX10_number_15 : decode cX10_number 15 = .ok (.i2l, 1) := by decide +kernel
theorem dX10_number_16 : decode cX10_number 16 = .ok (.lconst 0, 1) := by decide +kernel
theorem dX10_number_17 : decode cX10_number 17 = .ok (.lconst 1, 1) := by decide +kernel
theorem dX10_number_18 : decode cX10_number 18 = .ok (.invokevirtual 106, 3) := by decide +kernel
theorem dX10_number_21 : decode cX10_number 21 = .ok (.ifCond .ne 5, 3) := by decide +kernel
theorem dX10_number_24 : decode cX10_number 24 = .ok (.iconst (-1), 1) := by decide +kernel
theorem dX10_number_25 : decode cX10_number 25 = .ok (.ireturn, 1) := by decide +kernel
theorem dX10_number_26 : decode cX10_number 26 = .ok (.iconst 1, 1) := by decide +kernel
theorem dX10_number_27 : decode cX10_number 27 = .ok (.istore_n 3, 1) := by decide +kernel
theorem dX10_number_28 : decode cX10_number 28 = .ok (.iload_n 3, 1) := by decide +kernel
theorem dX10_number_29 : decode cX10_number 29 = .ok (.aload_n 0, 1) := by decide +kernel
theorem dX10_number_30 : decode cX10_number 30 = .ok (.invokevirtual 313, 3) := by decide +kernel
theorem dX10_number_33 : decode cX10_number 33 = .ok (.if_icmp .gt 81, 3) := by decide +kernel
theorem dX10_number_36 : decode cX10_number 36 = .ok (.aload_n 0, 1) := by decide +kernel
theorem dX10_number_37 : decode cX10_number 37 = .ok (.iload_n 3, 1) := by decide +kernel
theorem dX10_number_38 : decode cX10_number 38 = .ok (.invokevirtual 307, 3) := by decide +kernel
theorem dX10_number_41 : decode cX10_number 41 = .ok (.iconst 0, 1) := by decide +kernel
theorem dX10_number_42 : decode cX10_number 42 = .ok (.istore 4, 2) := by decide +kernel
theorem dX10_number_44 : decode cX10_number 44 = .ok (.iload 4, 2) := by decide +kernel
theorem dX10_number_46 : decode cX10_number 46 = .ok (.aload_n 0, 1) := by decide +kernel
theorem dX10_number_47 : decode cX10_number 47 = .ok (.getfield 7, 3) := by decide +kernel
theorem dX10_number_50 : decode cX10_number 50 = .ok (.if_icmp .ge 33, 3) := by decide +kernel
theorem dX10_number_53 : decode cX10_number 53 = .ok (.aload_n 0, 1) := by decide +kernel
theorem dX10_number_54 : decode cX10_number 54 = .ok (.iload_n 1, 1) := by decide +kernel
theorem dX10_number_55 : decode cX10_number 55 = .ok (.iload 4, 2) := by decide +kernel
theorem dX10_number_57 : decode cX10_number 57 = .ok (.invokevirtual 225, 3) := by decide +kernel
theorem dX10_number_60 : decode cX10_number 60 = .ok (.aload_n 0, 1) := by decide +kernel
theorem dX10_number_61 : decode cX10_number 61 = .ok (.sipush 291, 3) := by decide +kernel
theorem dX10_number_64 : decode cX10_number 64 = .ok (.invokevirtual 128, 3) := by decide +kernel
theorem dX10_number_67 : decode cX10_number 67 = .ok (.ifCond .eq 10, 3) := by decide +kernel
theorem dX10_number_70 : decode cX10_number 70 = .ok (.aload_n 0, 1) := by decide +kernel
theorem dX10_number_71 : decode cX10_number 71 = .ok (.sipush 291, 3) := by decide +kernel
theorem dX10_number_74 : decode cX10_number 74 = .ok (.invokevirtual 310, 3) := by decide +kernel
theorem dX10_number_77 : decode cX10_number 77 = .ok (.iinc 4 1, 3) := by decide +kernel
theorem dX10_number_80 : decode cX10_number 80 = .ok (.goto (-36), 3) := by decide +kernel
theorem dX10_number_83 : decode cX10_number 83 = .ok (.iload_n 2, 1) := by decide +kernel
theorem dX10_number_84 : decode cX10_number 84 = .ok (.iconst 1, 1) := by decide +kernel
theorem dX10_number_85 : decode cX10_number 85 = .ok (.if_icmp .ne 8, 3) := by decide +kernel
theorem dX10_number_88 : decode cX10_number 88 = .ok (.aload_n 0, 1) := by decide +kernel
theorem dX10_number_89 : decode cX10_number 89 = .ok (.iload_n 1, 1) := by decide +kernel
theorem dX10_number_90 : decode cX10_number 90 = .ok (.invokevirtual 310, 3) := by decide +kernel
theorem dX10_number_93 : decode cX10_number 93 = .ok (.aload_n 0, 1) := by decide +kernel
theorem dX10_number_94 : decode cX10_number 94 = .ok (.iload_n 3, 1) := by decide +kernel
theorem dX10_number_95 : decode cX10_number 95 = .ok (.invokevirtual 340, 3) := by decide +kernel
theorem dX10_number_98 : decode cX10_number 98 = .ok (.ifCond .eq 10, 3) := by decide +kernel
theorem dX10_number_101 : decode cX10_number 101 = .ok (.aload_n 0, 1) := by decide +kernel
theorem dX10_number_102 : decode cX10_number 102 = .ok (.iconst 0, 1) := by decide +kernel
theorem dX10_number_103 : decode cX10_number 103 = .ok (.iconst (-1), 1) := by decide +kernel
theorem dX10_number_104 : decode cX10_number 104 = .ok (.invokevirtual 328, 3) := by decide +kernel
theorem dX10_number_107 : decode cX10_number 107 = .ok (.ireturn, 1) := by decide +kernel
theorem dX10_number_108 : decode cX10_number 108 = .ok (.iinc 3 1, 3) := by decide +kernel
theorem dX10_number_111 : decode cX10_number 111 = .ok (.goto (-83), 3) := by decide +kernel
theorem dX10_number_114 : decode cX10_number 114 = .ok (.iconst (-1), 1) := by decide +kernel
theorem dX10_number_115 : decode cX10_number 115 = .ok (.ireturn, 1) := by decide +kernel
theorem dX10_allOf_0 : decode cX10_allOf 0 = .ok (.aload_n 0, 1) := by decide +kernel
theorem dX10_allOf_1 : decode cX10_allOf 1 = .ok (.iload_n 1, 1) := by decide +kernel
theorem dX10_allOf_2 : decode cX10_allOf 2 = .ok (.invokevirtual 304, 3) := by decide +kernel
theorem dX10_allOf_5 : decode cX10_allOf 5 = .ok (.aload_n 0, 1) := by decide +kernel
theorem dX10_allOf_6 : decode cX10_allOf 6 = .ok (.getfield 283, 3) := by decide +kernel
theorem dX10_allOf_9 : decode cX10_allOf 9 = .ok (.ireturn, 1) := by decide +kernel
theorem dX10_all_0 : decode cX10_all 0 = .ok (.aload_n 0, 1) := by decide +kernel
theorem dX10_all_1 : decode cX10_all 1 = .ok (.iconst 0, 1) := by decide +kernel
theorem dX10_all_2 : decode cX10_all 2 = .ok (.putfield 65, 3) := by decide +kernel
theorem dX10_all_5 : decode cX10_all 5 = .ok (.aload_n 0, 1) := by decide +kernel
theorem dX10_all_6 : decode cX10_all 6 = .ok (.iload_n 1, 1) := by decide +kernel
theorem dX10_all_7 : decode cX10_all 7 = .ok (.i2l, 1) := by decide +kernel
theorem dX10_all_8 : decode cX10_all 8 = .ok (.lconst 1, 1) := by decide +kernel
theorem dX10_all_9 : decode cX10_all 9 = .ok (.aload_n 0, 1) := by decide +kernel
theorem dX10_all_10 : decode cX10_all 10 = .ok (.invokevirtual 313, 3) := by decide +kernel
theorem dX10_all_13 : decode cX10_all 13 = .ok (.i2l, 1) := by decide +kernel
theorem dX10_all_14 : decode cX10_all 14 = .ok (.invokevirtual 106, 3) := by decide +kernel
theorem dX10_all_17 : decode cX10_all 17 = .ok (.ifCond .eq 14, 3) := by decide +kernel
theorem dX10_all_20 : decode cX10_all 20 = .ok (.aload_n 0, 1) := by decide +kernel
theorem dX10_all_21 : decode cX10_all 21 = .ok (.iload_n 2, 1) := by decide +kernel
theorem dX10_all_22 : decode cX10_all 22 = .ok (.i2l, 1) := by decide +kernel
theorem dX10_all_23 : decode cX10_all 23 = .ok (.lconst 0, 1) := by decide +kernel
theorem dX10_all_24 : decode cX10_all 24 = .ok (.lconst 1, 1) := by decide +kernel
theorem dX10_all_25 : decode cX10_all 25 = .ok (.invokevirtual 106, 3) := by decide +kernel
theorem dX10_all_28 : decode cX10_all 28 = .ok (.ifCond .ne 5, 3) := by decide +kernel
theorem dX10_all_31 : decode cX10_all 31 = .ok (.iconst (-1), 1) := by decide +kernel
theorem dX10_all_32 : decode cX10_all 32 = .ok (.ireturn, 1) := by decide +kernel
theorem dX10_all_33 : decode cX10_all 33 = .ok (.aload_n 0, 1) := by decide +kernel
theorem dX10_all_34 : decode cX10_all 34 = .ok (.iload_n 1, 1) := by decide +kernel
theorem dX10_all_35 : decode cX10_all 35 = .ok (.invokevirtual 343, 3) := by decide +kernel
theorem dX10_all_38 : decode cX10_all 38 = .ok (.istore_n 3, 1) := by decide +kernel
theorem dX10_all_39 : decode cX10_all 39 = .ok (.iload_n 2, 1) := by decide +kernel
theorem dX10_all_40 : decode cX10_all 40 = .ok (.ifCond .ne 7, 3) := by decide +kernel
theorem dX10_all_43 : decode cX10_all 43 = .ok (.iload_n 3, 1) := by decide +kernel
theorem dX10_all_44 : decode cX10_all 44 = .ok (.goto 12, 3) := by decide +kernel
theorem dX10_all_47 : decode cX10_all 47 = .ok (.aload_n 0, 1) := by decide +kernel
theorem dX10_all_48 : decode cX10_all 48 = .ok (.iload_n 1, 1) := by decide +kernel
theorem dX10_all_49 : decode cX10_all 49 = .ok (.iconst 1, 1) := by decide +kernel
theorem dX10_all_50 : decode cX10_all 50 = .ok (.iadd, 1) := by decide +kernel
theorem dX10_all_51 : decode cX10_all 51 = .ok (.invokevirtual 343, 3) := by decide +kernel
theorem dX10_all_54 : decode cX10_all 54 = .ok (.iload_n 3, 1) := by decide +kernel
theorem dX10_all_55 : decode cX10_all 55 = .ok (.isub, 1) := by decide +kernel
theorem dX10_all_56 : decode cX10_all 56 = .ok (.ireturn, 1) := by decide +kernel
theorem dX10_notNought_0 : decode cX10_notNought 0 = .ok (.iconst 0, 1) := by decide +kernel
theorem dX10_notNought_1 : decode cX10_notNought 1 = .ok (.istore_n 1, 1) := by decide +kernel
theorem dX10_notNought_2 : decode cX10_notNought 2 = .ok (.iconst 0, 1) := by decide +kernel
theorem dX10_notNought_3 : decode cX10_notNought 3 = .ok (.istore_n 2, 1) := by decide +kernel
theorem dX10_notNought_4 : decode cX10_notNought 4 = .ok (.iload_n 2, 1) := by decide +kernel
theorem dX10_notNought_5 : decode cX10_notNought 5 = .ok (.bipush 8, 2) := by decide +kernel
theorem dX10_notNought_7 : decode cX10_notNought 7 = .ok (.if_icmp .ge 28, 3) := by decide +kernel
theorem dX10_notNought_10 : decode cX10_notNought 10 = .ok (.aload_n 0, 1) := by decide +kernel
theorem dX10_notNought_11 : decode cX10_notNought 11 = .ok (.getfield 20, 3) := by decide +kernel
theorem dX10_notNought_14 : decode cX10_notNought 14 = .ok (.iload_n 2, 1) := by decide +kernel
theorem dX10_notNought_15 : decode cX10_notNought 15 = .ok (.iaload, 1) := by decide +kernel
theorem dX10_notNought_16 : decode cX10_notNought 16 = .ok (.ifCond .le 11, 3) := by decide +kernel
theorem dX10_notNought_19 : decode cX10_notNought 19 = .ok (.iload_n 1, 1) := by decide +kernel
theorem dX10_notNought_20 : decode cX10_notNought 20 = .ok (.iconst 1, 1) := by decide +kernel
theorem dX10_notNought_21 : decode cX10_notNought 21 = .ok (.iload_n 2, 1) := by decide +kernel
theorem dX10_notNought_22 : decode cX10_notNought 22 = .ok (.ishl, 1) := by decide +kernel
theorem dX10_notNought_23 : decode cX10_notNought 23 = .ok (.ior, 1) := by decide +kernel
theorem dX10_notNought_24 : decode cX10_notNought 24 = .ok (.goto 4, 3) := by decide +kernel
theorem dX10_notNought_27 : decode cX10_notNought 27 = .ok (.iload_n 1, 1) := by decide +kernel
theorem dX10_notNought_28 : decode cX10_notNought 28 = .ok (.istore_n 1, 1) := by decide +kernel
theorem dX10_notNought_29 : decode cX10_notNought 29 = .ok (.iinc 2 1, 3) := by decide +kernel
theorem dX10_notNought_32 : decode cX10_notNought 32 = .ok (.goto (-28), 3) := by decide +kernel
theorem dX10_notNought_35 : decode cX10_notNought 35 = .ok (.iload_n 1, 1) := by decide +kernel
theorem dX10_notNought_36 : decode cX10_notNought 36 = .ok (.ireturn, 1) := by decide +kernel
theorem dX10_look_0 : decode cX10_look 0 = .ok (.aload_n 0, 1) := by decide +kernel
theorem dX10_look_1 : decode cX10_look 1 = .ok (.iconst 0, 1) := by decide +kernel
theorem dX10_look_2 : decode cX10_look 2 = .ok (.putfield 65, 3) := by decide +kernel
theorem dX10_look_5 : decode cX10_look 5 = .ok (.iload_n 1, 1) := by decide +kernel
theorem dX10_look_6 : decode cX10_look 6 = .ok (.tableswitch 117 0 9 #[54, 59, 64, 64, 64, 73, 78, 83, 88, 101], 54) := by decide +kernel
theorem dX10_look_60 : decode cX10_look 60 = .ok (.aload_n 0, 1) := by decide +kernel
theorem dX10_look_61 : decode cX10_look 61 = .ok (.getfield 7, 3) := by decide +kernel
theorem dX10_look_64 : decode cX10_look 64 = .ok (.ireturn, 1) := by decide +kernel
theorem dX10_look_65 : decode cX10_look 65 = .ok (.aload_n 0, 1) := by decide +kernel
theorem dX10_look_66 : decode cX10_look 66 = .ok (.getfield 13, 3) := by decide +kernel
theorem dX10_look_69 : decode cX10_look 69 = .ok (.ireturn, 1) := by decide +kernel
theorem dX10_look_70 : decode cX10_look 70 = .ok (.aload_n 0, 1) := by decide +kernel
theorem dX10_look_71 : decode cX10_look 71 = .ok (.getfield 16, 3) := by decide +kernel
theorem dX10_look_74 : decode cX10_look 74 = .ok (.iload_n 1, 1) := by decide +kernel
theorem dX10_look_75 : decode cX10_look 75 = .ok (.iconst 2, 1) := by decide +kernel
theorem dX10_look_76 : decode cX10_look 76 = .ok (.isub, 1) := by decide +kernel
theorem dX10_look_77 : decode cX10_look 77 = .ok (.iaload, 1) := by decide +kernel
theorem dX10_look_78 : decode cX10_look 78 = .ok (.ireturn, 1) := by decide +kernel
theorem dX10_look_79 : decode cX10_look 79 = .ok (.aload_n 0, 1) := by decide +kernel
theorem dX10_look_80 : decode cX10_look 80 = .ok (.invokevirtual 313, 3) := by decide +kernel
theorem dX10_look_83 : decode cX10_look 83 = .ok (.ireturn, 1) := by decide +kernel
theorem dX10_look_84 : decode cX10_look 84 = .ok (.aload_n 0, 1) := by decide +kernel
theorem dX10_look_85 : decode cX10_look 85 = .ok (.invokevirtual 346, 3) := by decide +kernel
theorem dX10_look_88 : decode cX10_look 88 = .ok (.ireturn, 1) := by decide +kernel
theorem dX10_look_89 : decode cX10_look 89 = .ok (.aload_n 0, 1) := by decide +kernel
theorem dX10_look_90 : decode cX10_look 90 = .ok (.getfield 137, 3) := by decide +kernel
theorem dX10_look_93 : decode cX10_look 93 = .ok (.ireturn, 1) := by decide +kernel
theorem dX10_look_94 : decode cX10_look 94 = .ok (.aload_n 0, 1) := by decide +kernel
theorem dX10_look_95 : decode cX10_look 95 = .ok (.getfield 120, 3) := by decide +kernel
theorem dX10_look_98 : decode cX10_look 98 = .ok (.ifCond .eq 7, 3) := by decide +kernel
theorem dX10_look_101 : decode cX10_look 101 = .ok (.iconst 1, 1) := by decide +kernel
theorem dX10_look_102 : decode cX10_look 102 = .ok (.goto 4, 3) := by decide +kernel
theorem dX10_look_105 : decode cX10_look 105 = .ok (.iconst 0, 1) := by decide +kernel
theorem dX10_look_106 : decode cX10_look 106 = .ok (.ireturn, 1) := by decide +kernel
theorem dX10_look_107 : decode cX10_look 107 = .ok (.aload_n 0, 1) := by decide +kernel
theorem dX10_look_108 : decode cX10_look 108 = .ok (.getfield 120, 3) := by decide +kernel
theorem dX10_look_111 : decode cX10_look 111 = .ok (.ifCond .eq 10, 3) := by decide +kernel
theorem dX10_look_114 : decode cX10_look 114 = .ok (.aload_n 0, 1) := by decide +kernel
theorem dX10_look_115 : decode cX10_look 115 = .ok (.getfield 258, 3) := by decide +kernel
theorem dX10_look_118 : decode cX10_look 118 = .ok (.goto 4, 3) := by decide +kernel
theorem dX10_look_121 : decode cX10_look 121 = .ok (.iconst (-1), 1) := by decide +kernel
theorem dX10_look_122 : decode cX10_look 122 = .ok (.ireturn, 1) := by decide +kernel
theorem dX10_look_123 : decode cX10_look 123 = .ok (.iload_n 1, 1) := by decide +kernel
theorem dX10_look_124 : decode cX10_look 124 = .ok (.bipush 10, 2) := by decide +kernel
theorem dX10_look_126 : decode cX10_look 126 = .ok (.if_icmp .ne 21, 3) := by decide +kernel
theorem dX10_look_129 : decode cX10_look 129 = .ok (.aload_n 0, 1) := by decide +kernel
theorem dX10_look_130 : decode cX10_look 130 = .ok (.getfield 120, 3) := by decide +kernel
theorem dX10_look_133 : decode cX10_look 133 = .ok (.ifCond .eq 10, 3) := by decide +kernel
theorem dX10_look_136 : decode cX10_look 136 = .ok (.aload_n 0, 1) := by decide +kernel
theorem dX10_look_137 : decode cX10_look 137 = .ok (.getfield 261, 3) := by decide +kernel
theorem dX10_look_140 : decode cX10_look 140 = .ok (.goto 8, 3) := by decide +kernel
theorem dX10_look_143 : decode cX10_look 143 = .ok (.iconst (-1), 1) := by decide +kernel
theorem dX10_look_144 : decode cX10_look 144 = .ok (.goto 4, 3) := by decide +kernel
theorem dX10_look_147 : decode cX10_look 147 = .ok (.iconst (-1), 1) := by decide +kernel
theorem dX10_look_148 : decode cX10_look 148 = .ok (.ireturn, 1) := by decide +kernel
