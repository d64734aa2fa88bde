theorem dX9_init_0 : decode cX9_init 0 = .ok (.aload_n 0, 1) := by decide +kernel
theorem dX9_init_1 : decode cX9_init 1 = .ok (.invokespecial 3, 3) := by decide +kernel
theorem dX9_init_4 : decode cX9_init 4 = .ok (.aload_n 0, 1) := by decide +kernel
theorem dX9_init_5 : decode cX9_init 5 = .ok (.new 9, 3) := by decide +kernel
theorem dX9_init_8 : decode cX9_init 8 = .ok (.dup, 1) := by decide +kernel
theorem dX9_init_9 : decode cX9_init 9 = .ok (.invokespecial 11, 3) := by decide +kernel
theorem dX9_init_12 : decode cX9_init 12 = .ok (.putfield 12, 3) := by decide +kernel
theorem dX9_init_15 : decode cX9_init 15 = .ok (.aload_n 0, 1) := by decide +kernel
theorem dX9_init_16 : decode cX9_init 16 = .ok (.bipush 8, 2) := by decide +kernel
theorem dX9_init_18 : decode cX9_init 18 = .ok (.invokestatic 16, 3) := by decide +kernel
theorem dX9_init_21 : decode cX9_init 21 = .ok (.putfield 20, 3) := by decide +kernel
theorem dX9_init_24 : decode cX9_init 24 = .ok (.aload_n 0, 1) := by decide +kernel
theorem dX9_init_25 : decode cX9_init 25 = .ok (.new 24, 3) := by decide +kernel
theorem dX9_init_28 : decode cX9_init 28 = .ok (.dup, 1) := by decide +kernel
theorem dX9_init_29 : decode cX9_init 29 = .ok (.invokespecial 26, 3) := by decide +kernel
theorem dX9_init_32 : decode cX9_init 32 = .ok (.putfield 27, 3) := by decide +kernel
theorem dX9_init_35 : decode cX9_init 35 = .ok (.aload_n 0, 1) := by decide +kernel
theorem dX9_init_36 : decode cX9_init 36 = .ok (.new 31, 3) := by decide +kernel
theorem dX9_init_39 : decode cX9_init 39 = .ok (.dup, 1) := by decide +kernel
theorem dX9_init_40 : decode cX9_init 40 = .ok (.invokespecial 33, 3) := by decide +kernel
theorem dX9_init_43 : decode cX9_init 43 = .ok (.putfield 34, 3) := by decide +kernel
theorem dX9_init_46 : decode cX9_init 46 = .ok (.aload_n 0, 1) := by decide +kernel
theorem dX9_init_47 : decode cX9_init 47 = .ok (.new 38, 3) := by decide +kernel
theorem dX9_init_50 : decode cX9_init 50 = .ok (.dup, 1) := by decide +kernel
theorem dX9_init_51 : decode cX9_init 51 = .ok (.invokespecial 40, 3) := by decide +kernel
theorem dX9_init_54 : decode cX9_init 54 = .ok (.putfield 41, 3) := by decide +kernel
theorem dX9_init_57 : decode cX9_init 57 = .ok (.aload_n 0, 1) := by decide +kernel
theorem dX9_init_58 : decode cX9_init 58 = .ok (.iconst 4, 1) := by decide +kernel
theorem dX9_init_59 : decode cX9_init 59 = .ok (.anewarray 45, 3) := by decide +kernel
theorem dX9_init_62 : decode cX9_init 62 = .ok (.putfield 47, 3) := by decide +kernel
theorem dX9_init_65 : decode cX9_init 65 = .ok (.iconst 0, 1) := by decide +kernel
theorem dX9_init_66 : decode cX9_init 66 = .ok (.istore_n 1, 1) := by decide +kernel
theorem dX9_init_67 : decode cX9_init 67 = .ok (.iload_n 1, 1) := by decide +kernel
theorem dX9_init_68 : decode cX9_init 68 = .ok (.iconst 4, 1) := by decide +kernel
theorem dX9_init_69 : decode cX9_init 69 = .ok (.if_icmp .ge 22, 3) := by decide +kernel
theorem dX9_init_72 : decode cX9_init 72 = .ok (.aload_n 0, 1) := by decide +kernel
theorem dX9_init_73 : decode cX9_init 73 = .ok (.getfield 47, 3) := by decide +kernel
theorem dX9_init_76 : decode cX9_init 76 = .ok (.iload_n 1, 1) := by decide +kernel
theorem dX9_init_77 : decode cX9_init 77 = .ok (.new 45, 3) := by decide +kernel
theorem dX9_init_80 : decode cX9_init 80 = .ok (.dup, 1) := by decide +kernel
theorem dX9_init_81 : decode cX9_init 81 = .ok (.invokespecial 51, 3) := by decide +kernel
theorem dX9_init_84 : decode cX9_init 84 = .ok (.aastore, 1) := by decide +kernel
theorem dX9_init_85 : decode cX9_init 85 = .ok (.iinc 1 1, 3) := by decide +kernel
theorem dX9_init_88 : decode cX9_init 88 = .ok (.goto (-21), 3) := by decide +kernel
theorem dX9_init_91 : decode cX9_init 91 = .ok (.aload_n 0, 1) := by decide +kernel
theorem dX9_init_92 : decode cX9_init 92 = .ok (.iconst 4, 1) := by decide +kernel
theorem dX9_init_93 : decode cX9_init 93 = .ok (.invokestatic 16, 3) := by decide +kernel
theorem dX9_init_96 : decode cX9_init 96 = .ok (.putfield 52, 3) := by decide +kernel
theorem dX9_init_99 : decode cX9_init 99 = .ok (.aload_n 0, 1) := by decide +kernel
theorem dX9_init_100 : decode cX9_init 100 = .ok (.new 55, 3) := by decide +kernel
theorem dX9_init_103 : decode cX9_init 103 = .ok (.dup, 1) := by decide +kernel
theorem dX9_init_104 : decode cX9_init 104 = .ok (.bipush 60, 2) := by decide +kernel
theorem dX9_init_106 : decode cX9_init 106 = .ok (.invokespecial 57, 3) := by decide +kernel
theorem dX9_init_109 : decode cX9_init 109 = .ok (.putfield 60, 3) := by decide +kernel
theorem dX9_init_112 : decode cX9_init 112 = .ok (.aload_n 0, 1) := by decide +kernel
theorem dX9_init_113 : decode cX9_init 113 = .ok (.new 55, 3) := by decide +kernel
theorem dX9_init_116 : decode cX9_init 116 = .ok (.dup, 1) := by decide +kernel
theorem dX9_init_117 : decode cX9_init 117 = .ok (.sipush 3600, 3) := by decide +kernel
theorem dX9_init_120 : decode cX9_init 120 = .ok (.invokespecial 57, 3) := by decide +kernel
theorem dX9_init_123 : decode cX9_init 123 = .ok (.putfield 64, 3) := by decide +kernel
theorem dX9_init_126 : decode cX9_init 126 = .ok (.aload_n 0, 1) := by decide +kernel
theorem dX9_init_127 : decode cX9_init 127 = .ok (.new 55, 3) := by decide +kernel
theorem dX9_init_130 : decode cX9_init 130 = .ok (.dup, 1) := by decide +kernel
theorem dX9_init_131 : decode cX9_init 131 = .ok (.sipush 3600, 3) := by decide +kernel
theorem dX9_init_134 : decode cX9_init 134 = .ok (.invokespecial 57, 3) := by decide +kernel
theorem dX9_init_137 : decode cX9_init 137 = .ok (.putfield 67, 3) := by decide +kernel
theorem dX9_init_140 : decode cX9_init 140 = .ok (.return_, 1) := by decide +kernel
theorem dX9_ring_0 : decode cX9_ring 0 = .ok (.iload_n 1, 1) := by decide +kernel
theorem dX9_ring_1 : decode cX9_ring 1 = .ok (.iconst 1, 1) := by decide +kernel
theorem dX9_ring_2 : decode cX9_ring 2 = .ok (.if_icmp .lt 15, 3) := by decide +kernel
theorem dX9_ring_5 : decode cX9_ring 5 = .ok (.iload_n 1, 1) := by decide +kernel
theorem dX9_ring_6 : decode cX9_ring 6 = .ok (.iconst 3, 1) := by decide +kernel
theorem dX9_ring_7 : decode cX9_ring 7 = .ok (.if_icmp .gt 10, 3) := by decide +kernel
theorem dX9_ring_10 : decode cX9_ring 10 = .ok (.iload_n 2, 1) := by decide +kernel
theorem dX9_ring_11 : decode cX9_ring 11 = .ok (.invokestatic 70, 3) := by decide +kernel
theorem dX9_ring_14 : decode cX9_ring 14 = .ok (.ifCond .ne 5, 3) := by decide +kernel
theorem dX9_ring_17 : decode cX9_ring 17 = .ok (.iconst 0, 1) := by decide +kernel
theorem dX9_ring_18 : decode cX9_ring 18 = .ok (.ireturn, 1) := by decide +kernel
theorem dX9_ring_19 : decode cX9_ring 19 = .ok (.aload_n 0, 1) := by decide +kernel
theorem dX9_ring_20 : decode cX9_ring 20 = .ok (.getfield 12, 3) := by decide +kernel
theorem dX9_ring_23 : decode cX9_ring 23 = .ok (.iload_n 1, 1) := by decide +kernel
theorem dX9_ring_24 : decode cX9_ring 24 = .ok (.putfield 74, 3) := by decide +kernel
theorem dX9_ring_27 : decode cX9_ring 27 = .ok (.aload_n 0, 1) := by decide +kernel
theorem dX9_ring_28 : decode cX9_ring 28 = .ok (.getfield 12, 3) := by decide +kernel
theorem dX9_ring_31 : decode cX9_ring 31 = .ok (.new 78, 3) := by decide +kernel
theorem dX9_ring_34 : decode cX9_ring 34 = .ok (.dup, 1) := by decide +kernel
theorem dX9_ring_35 : decode cX9_ring 35 = .ok (.iload_n 2, 1) := by decide +kernel
theorem dX9_ring_36 : decode cX9_ring 36 = .ok (.invokespecial 80, 3) := by decide +kernel
theorem dX9_ring_39 : decode cX9_ring 39 = .ok (.putfield 81, 3) := by decide +kernel
theorem dX9_ring_42 : decode cX9_ring 42 = .ok (.aload_n 0, 1) := by decide +kernel
theorem dX9_ring_43 : decode cX9_ring 43 = .ok (.getfield 12, 3) := by decide +kernel
theorem dX9_ring_46 : decode cX9_ring 46 = .ok (.iconst 1, 1) := by decide +kernel
theorem dX9_ring_47 : decode cX9_ring 47 = .ok (.iconst 1, 1) := by decide +kernel
theorem dX9_ring_48 : decode cX9_ring 48 = .ok (.iconst 1, 1) := by decide +kernel
theorem dX9_ring_49 : decode cX9_ring 49 = .ok (.invokevirtual 85, 3) := by decide +kernel
theorem dX9_ring_52 : decode cX9_ring 52 = .ok (.aload_n 0, 1) := by decide +kernel
theorem dX9_ring_53 : decode cX9_ring 53 = .ok (.getfield 20, 3) := by decide +kernel
theorem dX9_ring_56 : decode cX9_ring 56 = .ok (.astore_n 3, 1) := by decide +kernel
theorem dX9_ring_57 : decode cX9_ring 57 = .ok (.aload_n 3, 1) := by decide +kernel
theorem dX9_ring_58 : decode cX9_ring 58 = .ok (.arraylength, 1) := by decide +kernel
theorem dX9_ring_59 : decode cX9_ring 59 = .ok (.istore 4, 2) := by decide +kernel
theorem dX9_ring_61 : decode cX9_ring 61 = .ok (.iconst 0, 1) := by decide +kernel
theorem dX9_ring_62 : decode cX9_ring 62 = .ok (.istore 5, 2) := by decide +kernel
theorem dX9_ring_64 : decode cX9_ring 64 = .ok (.iload 5, 2) := by decide +kernel
theorem dX9_ring_66 : decode cX9_ring 66 = .ok (.iload 4, 2) := by decide +kernel
theorem dX9_ring_68 : decode cX9_ring 68 = .ok (.if_icmp .ge 20, 3) := by decide +kernel
theorem dX9_ring_71 : decode cX9_ring 71 = .ok (.aload_n 3, 1) := by decide +kernel
theorem dX9_ring_72 : decode cX9_ring 72 = .ok (.iload 5, 2) := by decide +kernel
theorem dX9_ring_74 : decode cX9_ring 74 = .ok (.aaload, 1) := by decide +kernel
theorem dX9_ring_75 : decode cX9_ring 75 = .ok (.astore 6, 2) := by decide +kernel
theorem dX9_ring_77 : decode cX9_ring 77 = .ok (.aload 6, 2) := by decide +kernel
theorem dX9_ring_79 : decode cX9_ring 79 = .ok (.invokevirtual 89, 3) := by decide +kernel
theorem dX9_ring_82 : decode cX9_ring 82 = .ok (.iinc 5 1, 3) := by decide +kernel
theorem dX9_ring_85 : decode cX9_ring 85 = .ok (.goto (-21), 3) := by decide +kernel
theorem dX9_ring_88 : decode cX9_ring 88 = .ok (.aload_n 0, 1) := by decide +kernel
theorem dX9_ring_89 : decode cX9_ring 89 = .ok (.invokevirtual 92, 3) := by decide +kernel
theorem dX9_ring_92 : decode cX9_ring 92 = .ok (.iconst 1, 1) := by decide +kernel
theorem dX9_ring_93 : decode cX9_ring 93 = .ok (.ireturn, 1) := by decide +kernel
theorem dX9_weights_0 : decode cX9_weights 0 = .ok (.iload_n 1, 1) := by decide +kernel
theorem dX9_weights_1 : decode cX9_weights 1 = .ok (.invokestatic 95, 3) := by decide +kernel
theorem dX9_weights_4 : decode cX9_weights 4 = .ok (.ifCond .eq 17, 3) := by decide +kernel
theorem dX9_weights_7 : decode cX9_weights 7 = .ok (.iload_n 2, 1) := by decide +kernel
theorem dX9_weights_8 : decode cX9_weights 8 = .ok (.invokestatic 95, 3) := by decide +kernel
theorem dX9_weights_11 : decode cX9_weights 11 = .ok (.ifCond .eq 10, 3) := by decide +kernel
theorem dX9_weights_14 : decode cX9_weights 14 = .ok (.iload_n 3, 1) := by decide +kernel
theorem dX9_weights_15 : decode cX9_weights 15 = .ok (.invokestatic 95, 3) := by decide +kernel
theorem dX9_weights_18 : decode cX9_weights 18 = .ok (.ifCond .ne 5, 3) := by decide +kernel
theorem dX9_weights_21 : decode cX9_weights 21 = .ok (.iconst 0, 1) := by decide +kernel
theorem dX9_weights_22 : decode cX9_weights 22 = .ok (.ireturn, 1) := by decide +kernel
theorem dX9_weights_23 : decode cX9_weights 23 = .ok (.aload_n 0, 1) := by decide +kernel
theorem dX9_weights_24 : decode cX9_weights 24 = .ok (.getfield 12, 3) := by decide +kernel
theorem dX9_weights_27 : decode cX9_weights 27 = .ok (.iload_n 1, 1) := by decide +kernel
theorem dX9_weights_28 : decode cX9_weights 28 = .ok (.iload_n 2, 1) := by decide +kernel
theorem dX9_weights_29 : decode cX9_weights 29 = .ok (.iload_n 3, 1) := by decide +kernel
theorem dX9_weights_30 : decode cX9_weights 30 = .ok (.invokevirtual 85, 3) := by decide +kernel
theorem dX9_weights_33 : decode cX9_weights 33 = .ok (.aload_n 0, 1) := by decide +kernel
theorem dX9_weights_34 : decode cX9_weights 34 = .ok (.getfield 20, 3) := by decide +kernel
theorem dX9_weights_37 : decode cX9_weights 37 = .ok (.astore 4, 2) := by decide +kernel
theorem dX9_weights_39 : decode cX9_weights 39 = .ok (.aload 4, 2) := by decide +kernel
theorem dX9_weights_41 : decode cX9_weights 41 = .ok (.arraylength, 1) := by decide +kernel
theorem dX9_weights_42 : decode cX9_weights 42 = .ok (.istore 5, 2) := by decide +kernel
theorem dX9_weights_44 : decode cX9_weights 44 = .ok (.iconst 0, 1) := by decide +kernel
theorem dX9_weights_45 : decode cX9_weights 45 = .ok (.istore 6, 2) := by decide +kernel
theorem dX9_weights_47 : decode cX9_weights 47 = .ok (.iload 6, 2) := by decide +kernel
theorem dX9_weights_49 : decode cX9_weights 49 = .ok (.iload 5, 2) := by decide +kernel
theorem dX9_weights_51 : decode cX9_weights 51 = .ok (.if_icmp .ge 25, 3) := by decide +kernel
theorem dX9_weights_54 : decode cX9_weights 54 = .ok (.aload 4, 2) := by decide +kernel
theorem dX9_weights_56 : decode cX9_weights 56 = .ok (.iload 6, 2) := by decide +kernel
theorem dX9_weights_58 : decode cX9_weights 58 = .ok (.aaload, 1) := by decide +kernel
theorem dX9_weights_59 : decode cX9_weights 59 = .ok (.astore 7, 2) := by decide +kernel
theorem dX9_weights_61 : decode cX9_weights 61 = .ok (.aload 7, 2) := by decide +kernel
theorem dX9_weights_63 : decode cX9_weights 63 = .ok (.aload_n 0, 1) := by decide +kernel
theorem dX9_weights_64 : decode cX9_weights 64 = .ok (.getfield 12, 3) := by decide +kernel
theorem dX9_weights_67 : decode cX9_weights 67 = .ok (.invokevirtual 98, 3) := by decide +kernel
theorem dX9_weights_70 : decode cX9_weights 70 = .ok (.iinc 6 1, 3) := by decide +kernel
theorem dX9_weights_73 : decode cX9_weights 73 = .ok (.goto (-26), 3) := by decide +kernel
theorem dX9_weights_76 : decode cX9_weights 76 = .ok (.aload_n 0, 1) := by decide +kernel
theorem dX9_weights_77 : decode cX9_weights 77 = .ok (.invokevirtual 92, 3) := by decide +kernel
theorem dX9_weights_80 : decode cX9_weights 80 = .ok (.iconst 1, 1) := by decide +kernel
theorem dX9_weights_81 : decode cX9_weights 81 = .ok (.ireturn, 1) := by decide +kernel
theorem dX9_feed_0 : decode cX9_feed 0 = .ok (.aload_n 0, 1) := by decide +kernel
theorem dX9_feed_1 : decode cX9_feed 1 = .ok (.getfield 27, 3) := by decide +kernel
theorem dX9_feed_4 : decode cX9_feed 4 = .ok (.getfield 102, 3) := by decide +kernel
theorem dX9_feed_7 : decode cX9_feed 7 = .ok (.bipush 20, 2) := by decide +kernel
theorem dX9_feed_9 : decode cX9_feed 9 = .ok (.iadd, 1) := by decide +kernel
theorem dX9_feed_10 : decode cX9_feed 10 = .ok (.sipush 200, 3) := by decide +kernel
theorem dX9_feed_13 : decode cX9_feed 13 = .ok (.if_icmp .le 5, 3) := by decide +kernel
theorem dX9_feed_16 : decode cX9_feed 16 = .ok (.iconst (-1), 1) := by decide +kernel
theorem dX9_feed_17 : decode cX9_feed 17 = .ok (.ireturn, 1) := by decide +kernel
theorem dX9_feed_18 : decode cX9_feed 18 = .ok (.aload_n 0, 1) := by decide +kernel
theorem dX9_feed_19 : decode cX9_feed 19 = .ok (.getfield 27, 3) := by decide +kernel
theorem dX9_feed_22 : decode cX9_feed 22 = .ok (.iload_n 1, 1) := by decide +kernel
theorem dX9_feed_23 : decode cX9_feed 23 = .ok (.invokevirtual 105, 3) := by decide +kernel
theorem dX9_feed_26 : decode cX9_feed 26 = .ok (.aload_n 0, 1) := by decide +kernel
theorem dX9_feed_27 : decode cX9_feed 27 = .ok (.getfield 27, 3) := by decide +kernel
theorem dX9_feed_30 : decode cX9_feed 30 = .ok (.iload_n 2, 1) := by decide +kernel
theorem dX9_feed_31 : decode cX9_feed 31 = .ok (.invokevirtual 105, 3) := by decide +kernel
theorem dX9_feed_34 : decode cX9_feed 34 = .ok (.aload_n 0, 1) := by decide +kernel
theorem dX9_feed_35 : decode cX9_feed 35 = .ok (.getfield 27, 3) := by decide +kernel
theorem dX9_feed_38 : decode cX9_feed 38 = .ok (.iload_n 3, 1) := by decide +kernel
theorem dX9_feed_39 : decode cX9_feed 39 = .ok (.invokevirtual 105, 3) := by decide +kernel
theorem dX9_feed_42 : decode cX9_feed 42 = .ok (.aload_n 0, 1) := by decide +kernel
theorem dX9_feed_43 : decode cX9_feed 43 = .ok (.getfield 27, 3) := by decide +kernel
theorem dX9_feed_46 : decode cX9_feed 46 = .ok (.iload 4, 2) := by decide +kernel
theorem dX9_feed_48 : decode cX9_feed 48 = .ok (.invokevirtual 105, 3) := by decide +kernel
theorem dX9_feed_51 : decode cX9_feed 51 = .ok (.aload_n 0, 1) := by decide +kernel
theorem dX9_feed_52 : decode cX9_feed 52 = .ok (.getfield 27, 3) := by decide +kernel
theorem dX9_feed_55 : decode cX9_feed 55 = .ok (.iload 5, 2) := by decide +kernel
theorem dX9_feed_57 : decode cX9_feed 57 = .ok (.invokevirtual 105, 3) := by decide +kernel
theorem dX9_feed_60 : decode cX9_feed 60 = .ok (.aload_n 0, 1) := by decide +kernel
theorem dX9_feed_61 : decode cX9_feed 61 = .ok (.getfield 27, 3) := by decide +kernel
theorem dX9_feed_64 : decode cX9_feed 64 = .ok (.getfield 102, 3) := by decide +kernel
theorem dX9_feed_67 : decode cX9_feed 67 = .ok (.ireturn, 1) := by decide +kernel
theorem dX9_end_0 : decode cX9_end 0 = .ok (.iload_n 1, 1) := by decide +kernel
theorem dX9_end_1 : decode cX9_end 1 = .ok (.ifCond .lt 14, 3) := by decide +kernel
theorem dX9_end_4 : decode cX9_end 4 = .ok (.iload_n 1, 1) := by decide +kernel
theorem dX9_end_5 : decode cX9_end 5 = .ok (.aload_n 0, 1) := by decide +kernel
theorem dX9_end_6 : decode cX9_end 6 = .ok (.getfield 27, 3) := by decide +kernel
theorem dX9_end_9 : decode cX9_end 9 = .ok (.getfield 102, 3) := by decide +kernel
theorem dX9_end_12 : decode cX9_end 12 = .ok (.if_icmp .le 5, 3) := by decide +kernel
theorem dX9_end_15 : decode cX9_end 15 = .ok (.iconst 0, 1) := by decide +kernel
theorem dX9_end_16 : decode cX9_end 16 = .ok (.ireturn, 1) := by decide +kernel
theorem dX9_end_17 : decode cX9_end 17 = .ok (.aload_n 0, 1) := by decide +kernel
theorem dX9_end_18 : decode cX9_end 18 = .ok (.getfield 27, 3) := by decide +kernel
theorem dX9_end_21 : decode cX9_end 21 = .ok (.iload_n 1, 1) := by decide +kernel
theorem dX9_end_22 : decode cX9_end 22 = .ok (.putfield 102, 3) := by decide +kernel
theorem dX9_end_25 : decode cX9_end 25 = .ok (.iconst 1, 1) := by decide +kernel
theorem dX9_end_26 : decode cX9_end 26 = .ok (.ireturn, 1) := by decide +kernel
theorem dX9_poly_0 : decode cX9_poly 0 = .ok (.aload_n 0, 1) := by decide +kernel
theorem dX9_poly_1 : decode cX9_poly 1 = .ok (.getfield 27, 3) := by decide +kernel
theorem dX9_poly_4 : decode cX9_poly 4 = .ok (.invokevirtual 108, 3) := by decide +kernel
theorem dX9_poly_7 : decode cX9_poly 7 = .ok (.iload_n 1, 1) := by decide +kernel
theorem dX9_poly_8 : decode cX9_poly 8 = .ok (.invokestatic 111, 3) := by decide +kernel
theorem dX9_poly_11 : decode cX9_poly 11 = .ok (.ifCond .eq 14, 3) := by decide +kernel
theorem dX9_poly_14 : decode cX9_poly 14 = .ok (.aload_n 0, 1) := by decide +kernel
theorem dX9_poly_15 : decode cX9_poly 15 = .ok (.getfield 27, 3) := by decide +kernel
theorem dX9_poly_18 : decode cX9_poly 18 = .ok (.aload_n 0, 1) := by decide +kernel
theorem dX9_poly_19 : decode cX9_poly 19 = .ok (.getfield 12, 3) := by decide +kernel
theorem dX9_poly_22 : decode cX9_poly 22 = .ok (.invokevirtual 114, 3) := by decide +kernel
theorem dX9_poly_25 : decode cX9_poly 25 = .ok (.aload_n 0, 1) := by decide +kernel
theorem dX9_poly_26 : decode cX9_poly 26 = .ok (.getfield 27, 3) := by decide +kernel
theorem dX9_poly_29 : decode cX9_poly 29 = .ok (.iconst 0, 1) := by decide +kernel
theorem dX9_poly_30 : decode cX9_poly 30 = .ok (.putfield 102, 3) := by decide +kernel
theorem dX9_poly_33 : decode cX9_poly 33 = .ok (.iload_n 1, 1) := by decide +kernel
theorem dX9_poly_34 : decode cX9_poly 34 = .ok (.invokestatic 111, 3) := by decide +kernel
theorem dX9_poly_37 : decode cX9_poly 37 = .ok (.ifCond .eq 13, 3) := by decide +kernel
theorem dX9_poly_40 : decode cX9_poly 40 = .ok (.aload_n 0, 1) := by decide +kernel
theorem dX9_poly_41 : decode cX9_poly 41 = .ok (.getfield 27, 3) := by decide +kernel
theorem dX9_poly_44 : decode cX9_poly 44 = .ok (.getfield 117, 3) := by decide +kernel
theorem dX9_poly_47 : decode cX9_poly 47 = .ok (.ifCond .eq 5, 3) := by decide +kernel
theorem dX9_poly_50 : decode cX9_poly 50 = .ok (.iconst (-1), 1) := by decide +kernel
theorem dX9_poly_51 : decode cX9_poly 51 = .ok (.ireturn, 1) := by decide +kernel
theorem dX9_poly_52 : decode cX9_poly 52 = .ok (.aload_n 0, 1) := by decide +kernel
theorem dX9_poly_53 : decode cX9_poly 53 = .ok (.getfield 60, 3) := by decide +kernel
theorem dX9_poly_56 : decode cX9_poly 56 = .ok (.aload_n 0, 1) := by decide +kernel
theorem dX9_poly_57 : decode cX9_poly 57 = .ok (.getfield 27, 3) := by decide +kernel
theorem dX9_poly_60 : decode cX9_poly 60 = .ok (.getfield 120, 3) := by decide +kernel
theorem dX9_poly_63 : decode cX9_poly 63 = .ok (.invokevirtual 123, 3) := by decide +kernel
theorem dX9_poly_66 : decode cX9_poly 66 = .ok (.aload_n 0, 1) := by decide +kernel
theorem dX9_poly_67 : decode cX9_poly 67 = .ok (.iload_n 1, 1) := by decide +kernel
theorem dX9_poly_68 : decode cX9_poly 68 = .ok (.invokevirtual 127, 3) := by decide +kernel
theorem dX9_poly_71 : decode cX9_poly 71 = .ok (.ireturn, 1) := by decide +kernel
theorem dX9_show_0 : decode cX9_show 0 = .ok (.iload_n 1, 1) := by decide +kernel
theorem dX9_show_1 : decode cX9_show 1 = .ok (.invokestatic 111, 3) := by decide +kernel
theorem dX9_show_4 : decode cX9_show 4 = .ok (.ifCond .ne 5, 3) := by decide +kernel
theorem dX9_show_7 : decode cX9_show 7 = .ok (.iconst (-1), 1) := by decide +kernel
theorem dX9_show_8 : decode cX9_show 8 = .ok (.ireturn, 1) := by decide +kernel
theorem dX9_show_9 : decode cX9_show 9 = .ok (.aload_n 0, 1) := by decide +kernel
theorem dX9_show_10 : decode cX9_show 10 = .ok (.getfield 34, 3) := by decide +kernel
theorem dX9_show_13 : decode cX9_show 13 = .ok (.aload_n 0, 1) := by decide +kernel
theorem dX9_show_14 : decode cX9_show 14 = .ok (.getfield 20, 3) := by decide +kernel
theorem dX9_show_17 : decode cX9_show 17 = .ok (.iload_n 1, 1) := by decide +kernel
theorem dX9_show_18 : decode cX9_show 18 = .ok (.aaload, 1) := by decide +kernel
theorem dX9_show_19 : decode cX9_show 19 = .ok (.invokevirtual 134, 3) := by decide +kernel
theorem dX9_show_22 : decode cX9_show 22 = .ok (.aload_n 0, 1) := by decide +kernel
theorem dX9_show_23 : decode cX9_show 23 = .ok (.getfield 34, 3) := by decide +kernel
theorem dX9_show_26 : decode cX9_show 26 = .ok (.getfield 137, 3) := by decide +kernel
theorem dX9_show_29 : decode cX9_show 29 = .ok (.ireturn, 1) := by decide +kernel
theorem dX9_out_0 : decode cX9_out 0 = .ok (.iload_n 1, 1) := by decide +kernel
theorem dX9_out_1 : decode cX9_out 1 = .ok (.ifCond .lt 26, 3) := by decide +kernel
theorem dX9_out_4 : decode cX9_out 4 = .ok (.iload_n 1, 1) := by decide +kernel
theorem dX9_out_5 : decode cX9_out 5 = .ok (.aload_n 0, 1) := by decide +kernel
theorem dX9_out_6 : decode cX9_out 6 = .ok (.getfield 34, 3) := by decide +kernel
theorem dX9_out_9 : decode cX9_out 9 = .ok (.getfield 137, 3) := by decide +kernel
theorem dX9_out_12 : decode cX9_out 12 = .ok (.if_icmp .ge 15, 3) := by decide +kernel
theorem dX9_out_15 : decode cX9_out 15 = .ok (.aload_n 0, 1) := by decide +kernel
theorem dX9_out_16 : decode cX9_out 16 = .ok (.getfield 34, 3) := by decide +kernel
theorem dX9_out_19 : decode cX9_out 19 = .ok (.getfield 138, 3) := by decide +kernel
theorem dX9_out_22 : decode cX9_out 22 = .ok (.iload_n 1, 1) := by decide +kernel
theorem dX9_out_23 : decode cX9_out 23 = .ok (.iaload, 1) := by decide +kernel
theorem dX9_out_24 : decode cX9_out 24 = .ok (.goto 4, 3) := by decide +kernel
theorem dX9_out_27 : decode cX9_out 27 = .ok (.iconst (-1), 1) := by decide +kernel
theorem dX9_out_28 : decode cX9_out 28 = .ok (.ireturn, 1) := by decide +kernel
theorem dX9_term_0 : decode cX9_term 0 = .ok (.iload_n 1, 1) := by decide +kernel
theorem dX9_term_1 : decode cX9_term 1 = .ok (.invokestatic 111, 3) := by decide +kernel
theorem dX9_term_4 : decode cX9_term 4 = .ok (.ifCond .ne 5, 3) := by decide +kernel
theorem dX9_term_7 : decode cX9_term 7 = .ok (.iconst (-1), 1) := by decide +kernel
theorem dX9_term_8 : decode cX9_term 8 = .ok (.ireturn, 1) := by decide +kernel
theorem dX9_term_9 : decode cX9_term 9 = .ok (.aload_n 0, 1) := by decide +kernel
theorem dX9_term_10 : decode cX9_term 10 = .ok (.getfield 20, 3) := by decide +kernel
theorem dX9_term_13 : decode cX9_term 13 = .ok (.iload_n 1, 1) := by decide +kernel
theorem dX9_term_14 : decode cX9_term 14 = .ok (.aaload, 1) := by decide +kernel
theorem dX9_term_15 : decode cX9_term 15 = .ok (.astore 4, 2) := by decide +kernel
theorem dX9_term_17 : decode cX9_term 17 = .ok (.iload_n 2, 1) := by decide +kernel
theorem dX9_term_18 : decode cX9_term 18 = .ok (.iconst (-1), 1) := by decide +kernel
theorem dX9_term_19 : decode cX9_term 19 = .ok (.if_icmp .ne 9, 3) := by decide +kernel
theorem dX9_term_22 : decode cX9_term 22 = .ok (.aload 4, 2) := by decide +kernel
theorem dX9_term_24 : decode cX9_term 24 = .ok (.getfield 142, 3) := by decide +kernel
theorem dX9_term_27 : decode cX9_term 27 = .ok (.ireturn, 1) := by decide +kernel
theorem dX9_term_28 : decode cX9_term 28 = .ok (.iload_n 2, 1) := by decide +kernel
theorem dX9_term_29 : decode cX9_term 29 = .ok (.ifCond .lt 21, 3) := by decide +kernel
theorem dX9_term_32 : decode cX9_term 32 = .ok (.iload_n 2, 1) := by decide +kernel
theorem dX9_term_33 : decode cX9_term 33 = .ok (.aload 4, 2) := by decide +kernel
theorem dX9_term_35 : decode cX9_term 35 = .ok (.getfield 142, 3) := by decide +kernel
theorem dX9_term_38 : decode cX9_term 38 = .ok (.if_icmp .ge 12, 3) := by decide +kernel
theorem dX9_term_41 : decode cX9_term 41 = .ok (.iload_n 3, 1) := by decide +kernel
theorem dX9_term_42 : decode cX9_term 42 = .ok (.ifCond .lt 8, 3) := by decide +kernel
theorem dX9_term_45 : decode cX9_term 45 = .ok (.iload_n 3, 1) := by decide +kernel
theorem dX9_term_46 : decode cX9_term 46 = .ok (.iconst 4, 1) := by decide +kernel
theorem dX9_term_47 : decode cX9_term 47 = .ok (.if_icmp .le 5, 3) := by decide +kernel
theorem dX9_term_50 : decode cX9_term 50 = .ok (.iconst (-1), 1) := by decide +kernel
theorem dX9_term_51 : decode cX9_term 51 = .ok (.ireturn, 1) := by decide +kernel
theorem dX9_term_52 : decode cX9_term 52 = .ok (.iload_n 3, 1) := by decide +kernel
theorem dX9_term_53 : decode cX9_term 53 = .ok (.ifCond .ne 13, 3) := by decide +kernel
theorem dX9_term_56 : decode cX9_term 56 = .ok (.aload 4, 2) := by decide +kernel
theorem dX9_term_58 : decode cX9_term 58 = .ok (.getfield 143, 3) := by decide +kernel
theorem dX9_term_61 : decode cX9_term 61 = .ok (.iload_n 2, 1) := by decide +kernel
theorem dX9_term_62 : decode cX9_term 62 = .ok (.iaload, 1) := by decide +kernel
theorem dX9_term_63 : decode cX9_term 63 = .ok (.goto 16, 3) := by decide +kernel
theorem dX9_term_66 : decode cX9_term 66 = .ok (.aload 4, 2) := by decide +kernel
theorem dX9_term_68 : decode cX9_term 68 = .ok (.getfield 146, 3) := by decide +kernel
theorem dX9_term_71 : decode cX9_term 71 = .ok (.iload_n 2, 1) := by decide +kernel
theorem dX9_term_72 : decode cX9_term 72 = .ok (.iaload, 1) := by decide +kernel
theorem dX9_term_73 : decode cX9_term 73 = .ok (.iload_n 3, 1) := by decide +kernel
theorem dX9_term_74 : decode cX9_term 74 = .ok (.iconst 1, 1) := by decide +kernel
theorem dX9_term_75 : decode cX9_term 75 = .ok (.isub, 1) := by decide +kernel
theorem dX9_term_76 : decode cX9_term 76 = .ok (.invokestatic 149, 3) := by decide +kernel
theorem dX9_term_79 : decode cX9_term 79 = .ok (.ireturn, 1) := by decide +kernel
theorem dX9_shape_0 : decode cX9_shape 0 = .ok (.iload_n 1, 1) := by decide +kernel
theorem dX9_shape_1 : decode cX9_shape 1 = .ok (.invokestatic 111, 3) := by decide +kernel
theorem dX9_shape_4 : decode cX9_shape 4 = .ok (.ifCond .ne 5, 3) := by decide +kernel
theorem dX9_shape_7 : decode cX9_shape 7 = .ok (.iconst (-1), 1) := by decide +kernel
theorem dX9_shape_8 : decode cX9_shape 8 = .ok (.ireturn, 1) := by decide +kernel
theorem dX9_shape_9 : decode cX9_shape 9 = .ok (.aload_n 0, 1) := by decide +kernel
theorem dX9_shape_10 : decode cX9_shape 10 = .ok (.getfield 20, 3) := by decide +kernel
theorem dX9_shape_13 : decode cX9_shape 13 = .ok (.iload_n 1, 1) := by decide +kernel
theorem dX9_shape_14 : decode cX9_shape 14 = .ok (.aaload, 1) := by decide +kernel
theorem dX9_shape_15 : decode cX9_shape 15 = .ok (.astore_n 3, 1) := by decide +kernel
theorem dX9_shape_16 : decode cX9_shape 16 = .ok (.iload_n 2, 1) := by decide +kernel
theorem dX9_shape_17 : decode cX9_shape 17 = .ok (.tableswitch 80 0 4 #[35, 40, 45, 50, 67], 35) := by decide +kernel
theorem dX9_shape_52 : decode cX9_shape 52 = .ok (.aload_n 3, 1) := by decide +kernel
theorem dX9_shape_53 : decode cX9_shape 53 = .ok (.invokevirtual 153, 3) := by decide +kernel
theorem dX9_shape_56 : decode cX9_shape 56 = .ok (.ireturn, 1) := by decide +kernel
theorem dX9_shape_57 : decode cX9_shape 57 = .ok (.aload_n 3, 1) := by decide +kernel
theorem dX9_shape_58 : decode cX9_shape 58 = .ok (.invokevirtual 157, 3) := by decide +kernel
theorem dX9_shape_61 : decode cX9_shape 61 = .ok (.ireturn, 1) := by decide +kernel
theorem dX9_shape_62 : decode cX9_shape 62 = .ok (.aload_n 3, 1) := by decide +kernel
theorem dX9_shape_63 : decode cX9_shape 63 = .ok (.invokevirtual 160, 3) := by decide +kernel
theorem dX9_shape_66 : decode cX9_shape 66 = .ok (.ireturn, 1) := by decide +kernel
theorem dX9_shape_67 : decode cX9_shape 67 = .ok (.aload_n 3, 1) := by decide +kernel
theorem dX9_shape_68 : decode cX9_shape 68 = .ok (.invokevirtual 153, 3) := by decide +kernel
theorem dX9_shape_71 : decode cX9_shape 71 = .ok (.aload_n 3, 1) := by decide +kernel
theorem dX9_shape_72 : decode cX9_shape 72 = .ok (.invokevirtual 157, 3) := by decide +kernel
theorem dX9_shape_75 : decode cX9_shape 75 = .ok (.if_icmp .ne 7, 3) := by decide +kernel
theorem dX9_shape_78 : decode cX9_shape 78 = .ok (.iconst 1, 1) := by decide +kernel
theorem dX9_shape_79 : decode cX9_shape 79 = .ok (.goto 4, 3) := by decide +kernel
theorem dX9_shape_82 : decode cX9_shape 82 = .ok (.iconst 0, 1) := by decide +kernel
theorem dX9_shape_83 : decode cX9_shape 83 = .ok (.ireturn, 1) := by decide +kernel
theorem dX9_shape_84 : decode cX9_shape 84 = .ok (.aload_n 3, 1) := by decide +kernel
theorem dX9_shape_85 : decode cX9_shape 85 = .ok (.invokevirtual 153, 3) := by decide +kernel
theorem dX9_shape_88 : decode cX9_shape 88 = .ok (.ifCond .ne 7, 3) := by decide +kernel
theorem dX9_shape_91 : decode cX9_shape 91 = .ok (.iconst 1, 1) := by decide +kernel
theorem dX9_shape_92 : decode cX9_shape 92 = .ok (.goto 4, 3) := by decide +kernel
theorem dX9_shape_95 : decode cX9_shape 95 = .ok (.iconst 0, 1) := by decide +kernel
theorem dX9_shape_96 : decode cX9_shape 96 = .ok (.ireturn, 1) := by decide +kernel
theorem dX9_shape_97 : decode cX9_shape 97 = .ok (.iconst (-1), 1) := by decide +kernel
theorem dX9_shape_98 : decode cX9_shape 98 = .ok (.ireturn, 1) := by decide +kernel
theorem dX9_make_0 : decode cX9_make 0 = .ok (.iload_n 2, 1) := by decide +kernel
theorem dX9_make_1 : decode cX9_make 1 = .ok (.invokestatic 111, 3) := by decide +kernel
theorem dX9_make_4 : decode cX9_make 4 = .ok (.ifCond .eq 18, 3) := by decide +kernel
theorem dX9_make_7 : decode cX9_make 7 = .ok (.iload_n 3, 1) := by decide +kernel
theorem dX9_make_8 : decode cX9_make 8 = .ok (.invokestatic 111, 3) := by decide +kernel
theorem dX9_make_11 : decode cX9_make 11 = .ok (.ifCond .eq 11, 3) := by decide +kernel
theorem dX9_make_14 : decode cX9_make 14 = .ok (.iload 4, 2) := by decide +kernel
theorem dX9_make_16 : decode cX9_make 16 = .ok (.invokestatic 111, 3) := by decide +kernel
theorem dX9_make_19 : decode cX9_make 19 = .ok (.ifCond .ne 5, 3) := by decide +kernel
theorem dX9_make_22 : decode cX9_make 22 = .ok (.iconst (-1), 1) := by decide +kernel
theorem dX9_make_23 : decode cX9_make 23 = .ok (.ireturn, 1) := by decide +kernel
theorem dX9_make_24 : decode cX9_make 24 = .ok (.iconst 0, 1) := by decide +kernel
theorem dX9_make_25 : decode cX9_make 25 = .ok (.istore 5, 2) := by decide +kernel
theorem dX9_make_27 : decode cX9_make 27 = .ok (.iload_n 1, 1) := by decide +kernel
theorem dX9_make_28 : decode cX9_make 28 = .ok (.ifCond .ne 37, 3) := by decide +kernel
theorem dX9_make_31 : decode cX9_make 31 = .ok (.aload_n 0, 1) := by decide +kernel
theorem dX9_make_32 : decode cX9_make 32 = .ok (.getfield 60, 3) := by decide +kernel
theorem dX9_make_35 : decode cX9_make 35 = .ok (.aload_n 0, 1) := by decide +kernel
theorem dX9_make_36 : decode cX9_make 36 = .ok (.getfield 20, 3) := by decide +kernel
theorem dX9_make_39 : decode cX9_make 39 = .ok (.iload_n 2, 1) := by decide +kernel
theorem dX9_make_40 : decode cX9_make 40 = .ok (.aaload, 1) := by decide +kernel
theorem dX9_make_41 : decode cX9_make 41 = .ok (.iconst 1, 1) := by decide +kernel
theorem dX9_make_42 : decode cX9_make 42 = .ok (.ldc 165, 2) := by decide +kernel
theorem dX9_make_44 : decode cX9_make 44 = .ok (.aload_n 0, 1) := by decide +kernel
theorem dX9_make_45 : decode cX9_make 45 = .ok (.getfield 20, 3) := by decide +kernel
theorem dX9_make_48 : decode cX9_make 48 = .ok (.iload_n 3, 1) := by decide +kernel
theorem dX9_make_49 : decode cX9_make 49 = .ok (.aaload, 1) := by decide +kernel
theorem dX9_make_50 : decode cX9_make 50 = .ok (.aload_n 0, 1) := by decide +kernel
theorem dX9_make_51 : decode cX9_make 51 = .ok (.getfield 12, 3) := by decide +kernel
theorem dX9_make_54 : decode cX9_make 54 = .ok (.getfield 81, 3) := by decide +kernel
theorem dX9_make_57 : decode cX9_make 57 = .ok (.invokevirtual 166, 3) := by decide +kernel
theorem dX9_make_60 : decode cX9_make 60 = .ok (.istore 5, 2) := by decide +kernel
theorem dX9_make_62 : decode cX9_make 62 = .ok (.goto 79, 3) := by decide +kernel
theorem dX9_make_65 : decode cX9_make 65 = .ok (.iload_n 1, 1) := by decide +kernel
theorem dX9_make_66 : decode cX9_make 66 = .ok (.iconst 1, 1) := by decide +kernel
theorem dX9_make_67 : decode cX9_make 67 = .ok (.if_icmp .ne 51, 3) := by decide +kernel
theorem dX9_make_70 : decode cX9_make 70 = .ok (.aload_n 0, 1) := by decide +kernel
theorem dX9_make_71 : decode cX9_make 71 = .ok (.getfield 12, 3) := by decide +kernel
theorem dX9_make_74 : decode cX9_make 74 = .ok (.getfield 81, 3) := by decide +kernel
theorem dX9_make_77 : decode cX9_make 77 = .ok (.iconst 1, 1) := by decide +kernel
theorem dX9_make_78 : decode cX9_make 78 = .ok (.invokevirtual 170, 3) := by decide +kernel
theorem dX9_make_81 : decode cX9_make 81 = .ok (.istore 6, 2) := by decide +kernel
theorem dX9_make_83 : decode cX9_make 83 = .ok (.aload_n 0, 1) := by decide +kernel
theorem dX9_make_84 : decode cX9_make 84 = .ok (.getfield 60, 3) := by decide +kernel
theorem dX9_make_87 : decode cX9_make 87 = .ok (.aload_n 0, 1) := by decide +kernel
theorem dX9_make_88 : decode cX9_make 88 = .ok (.getfield 20, 3) := by decide +kernel
theorem dX9_make_91 : decode cX9_make 91 = .ok (.iload_n 2, 1) := by decide +kernel
theorem dX9_make_92 : decode cX9_make 92 = .ok (.aaload, 1) := by decide +kernel
theorem dX9_make_93 : decode cX9_make 93 = .ok (.iload 6, 2) := by decide +kernel
theorem dX9_make_95 : decode cX9_make 95 = .ok (.ldc 165, 2) := by decide +kernel
theorem dX9_make_97 : decode cX9_make 97 = .ok (.aload_n 0, 1) := by decide +kernel
theorem dX9_make_98 : decode cX9_make 98 = .ok (.getfield 20, 3) := by decide +kernel
theorem dX9_make_101 : decode cX9_make 101 = .ok (.iload_n 3, 1) := by decide +kernel
theorem dX9_make_102 : decode cX9_make 102 = .ok (.aaload, 1) := by decide +kernel
theorem dX9_make_103 : decode cX9_make 103 = .ok (.aload_n 0, 1) := by decide +kernel
theorem dX9_make_104 : decode cX9_make 104 = .ok (.getfield 12, 3) := by decide +kernel
theorem dX9_make_107 : decode cX9_make 107 = .ok (.getfield 81, 3) := by decide +kernel
theorem dX9_make_110 : decode cX9_make 110 = .ok (.invokevirtual 166, 3) := by decide +kernel
theorem dX9_make_113 : decode cX9_make 113 = .ok (.istore 5, 2) := by decide +kernel
theorem dX9_make_115 : decode cX9_make 115 = .ok (.goto 26, 3) := by decide +kernel
theorem dX9_make_118 : decode cX9_make 118 = .ok (.iload_n 1, 1) := by decide +kernel
theorem dX9_make_119 : decode cX9_make 119 = .ok (.iconst 2, 1) := by decide +kernel
theorem dX9_make_120 : decode cX9_make 120 = .ok (.if_icmp .ne 21, 3) := by decide +kernel
theorem dX9_make_123 : decode cX9_make 123 = .ok (.aload_n 0, 1) := by decide +kernel
theorem dX9_make_124 : decode cX9_make 124 = .ok (.aload_n 0, 1) := by decide +kernel
theorem dX9_make_125 : decode cX9_make 125 = .ok (.getfield 20, 3) := by decide +kernel
theorem dX9_make_128 : decode cX9_make 128 = .ok (.iload_n 2, 1) := by decide +kernel
theorem dX9_make_129 : decode cX9_make 129 = .ok (.aaload, 1) := by decide +kernel
theorem dX9_make_130 : decode cX9_make 130 = .ok (.aload_n 0, 1) := by decide +kernel
theorem dX9_make_131 : decode cX9_make 131 = .ok (.getfield 20, 3) := by decide +kernel
theorem dX9_make_134 : decode cX9_make 134 = .ok (.iload_n 3, 1) := by decide +kernel
theorem dX9_make_135 : decode cX9_make 135 = .ok (.aaload, 1) := by decide +kernel
theorem dX9_make_136 : decode cX9_make 136 = .ok (.invokevirtual 173, 3) := by decide +kernel
theorem dX9_make_139 : decode cX9_make 139 = .ok (.istore 5, 2) := by decide +kernel
theorem dX9_make_141 : decode cX9_make 141 = .ok (.iload 5, 2) := by decide +kernel
theorem dX9_make_143 : decode cX9_make 143 = .ok (.ifCond .eq 12, 3) := by decide +kernel
theorem dX9_make_146 : decode cX9_make 146 = .ok (.aload_n 0, 1) := by decide +kernel
theorem dX9_make_147 : decode cX9_make 147 = .ok (.iload 4, 2) := by decide +kernel
theorem dX9_make_149 : decode cX9_make 149 = .ok (.invokevirtual 127, 3) := by decide +kernel
theorem dX9_make_152 : decode cX9_make 152 = .ok (.goto 4, 3) := by decide +kernel
theorem dX9_make_155 : decode cX9_make 155 = .ok (.iconst (-1), 1) := by decide +kernel
theorem dX9_make_156 : decode cX9_make 156 = .ok (.ireturn, 1) := by decide +kernel
theorem dX9_weak_0 : decode cX9_weak 0 = .ok (.iload_n 1, 1) := by decide +kernel
theorem dX9_weak_1 : decode cX9_weak 1 = .ok (.invokestatic 111, 3) := by decide +kernel
theorem dX9_weak_4 : decode cX9_weak 4 = .ok (.ifCond .eq 10, 3) := by decide +kernel
theorem dX9_weak_7 : decode cX9_weak 7 = .ok (.iload_n 2, 1) := by decide +kernel
theorem dX9_weak_8 : decode cX9_weak 8 = .ok (.invokestatic 184, 3) := by decide +kernel
theorem dX9_weak_11 : decode cX9_weak 11 = .ok (.ifCond .ne 5, 3) := by decide +kernel
theorem dX9_weak_14 : decode cX9_weak 14 = .ok (.iconst (-1), 1) := by decide +kernel
theorem dX9_weak_15 : decode cX9_weak 15 = .ok (.ireturn, 1) := by decide +kernel
theorem dX9_weak_16 : decode cX9_weak 16 = .ok (.aload_n 0, 1) := by decide +kernel
theorem dX9_weak_17 : decode cX9_weak 17 = .ok (.getfield 41, 3) := by decide +kernel
theorem dX9_weak_20 : decode cX9_weak 20 = .ok (.aload_n 0, 1) := by decide +kernel
theorem dX9_weak_21 : decode cX9_weak 21 = .ok (.getfield 20, 3) := by decide +kernel
theorem dX9_weak_24 : decode cX9_weak 24 = .ok (.iload_n 1, 1) := by decide +kernel
theorem dX9_weak_25 : decode cX9_weak 25 = .ok (.aload_n 0, 1) := by decide +kernel
theorem dX9_weak_26 : decode cX9_weak 26 = .ok (.iload_n 2, 1) := by decide +kernel
theorem dX9_weak_27 : decode cX9_weak 27 = .ok (.invokevirtual 187, 3) := by decide +kernel
theorem dX9_weak_30 : decode cX9_weak 30 = .ok (.aload_n 0, 1) := by decide +kernel
theorem dX9_weak_31 : decode cX9_weak 31 = .ok (.getfield 12, 3) := by decide +kernel
theorem dX9_weak_34 : decode cX9_weak 34 = .ok (.getfield 81, 3) := by decide +kernel
theorem dX9_weak_37 : decode cX9_weak 37 = .ok (.invokevirtual 190, 3) := by decide +kernel
theorem dX9_weak_40 : decode cX9_weak 40 = .ok (.ireturn, 1) := by decide +kernel
theorem dX9_kept_0 : decode cX9_kept 0 = .ok (.aload_n 0, 1) := by decide +kernel
theorem dX9_kept_1 : decode cX9_kept 1 = .ok (.getfield 41, 3) := by decide +kernel
theorem dX9_kept_4 : decode cX9_kept 4 = .ok (.iload_n 1, 1) := by decide +kernel
theorem dX9_kept_5 : decode cX9_kept 5 = .ok (.invokevirtual 194, 3) := by decide +kernel
theorem dX9_kept_8 : decode cX9_kept 8 = .ok (.astore_n 3, 1) := by decide +kernel
theorem dX9_kept_9 : decode cX9_kept 9 = .ok (.aload_n 3, 1) := by decide +kernel
theorem dX9_kept_10 : decode cX9_kept 10 = .ok (.ifnull 10, 3) := by decide +kernel
theorem dX9_kept_13 : decode cX9_kept 13 = .ok (.iload_n 2, 1) := by decide +kernel
theorem dX9_kept_14 : decode cX9_kept 14 = .ok (.invokestatic 111, 3) := by decide +kernel
theorem dX9_kept_17 : decode cX9_kept 17 = .ok (.ifCond .ne 5, 3) := by decide +kernel
theorem dX9_kept_20 : decode cX9_kept 20 = .ok (.iconst (-1), 1) := by decide +kernel
theorem dX9_kept_21 : decode cX9_kept 21 = .ok (.ireturn, 1) := by decide +kernel
theorem dX9_kept_22 : decode cX9_kept 22 = .ok (.aload_n 0, 1) := by decide +kernel
theorem dX9_kept_23 : decode cX9_kept 23 = .ok (.getfield 60, 3) := by decide +kernel
theorem dX9_kept_26 : decode cX9_kept 26 = .ok (.aload_n 3, 1) := by decide +kernel
theorem dX9_kept_27 : decode cX9_kept 27 = .ok (.invokevirtual 123, 3) := by decide +kernel
theorem dX9_kept_30 : decode cX9_kept 30 = .ok (.aload_n 0, 1) := by decide +kernel
theorem dX9_kept_31 : decode cX9_kept 31 = .ok (.iload_n 2, 1) := by decide +kernel
theorem dX9_kept_32 : decode cX9_kept 32 = .ok (.invokevirtual 127, 3) := by decide +kernel
theorem dX9_kept_35 : decode cX9_kept 35 = .ok (.ireturn, 1) := by decide +kernel
theorem dX9_step_0 : decode cX9_step 0 = .ok (.aload_n 0, 1) := by decide +kernel
theorem dX9_step_1 : decode cX9_step 1 = .ok (.getfield 41, 3) := by decide +kernel
theorem dX9_step_4 : decode cX9_step 4 = .ok (.getfield 198, 3) := by decide +kernel
theorem dX9_step_7 : decode cX9_step 7 = .ok (.ifCond .ne 5, 3) := by decide +kernel
theorem dX9_step_10 : decode cX9_step 10 = .ok (.iconst (-1), 1) := by decide +kernel
theorem dX9_step_11 : decode cX9_step 11 = .ok (.ireturn, 1) := by decide +kernel
theorem dX9_step_12 : decode cX9_step 12 = .ok (.iload_n 1, 1) := by decide +kernel
theorem dX9_step_13 : decode cX9_step 13 = .ok (.iconst (-1), 1) := by decide +kernel
theorem dX9_step_14 : decode cX9_step 14 = .ok (.if_icmp .ne 14, 3) := by decide +kernel
theorem dX9_step_17 : decode cX9_step 17 = .ok (.aload_n 0, 1) := by decide +kernel
theorem dX9_step_18 : decode cX9_step 18 = .ok (.getfield 41, 3) := by decide +kernel
theorem dX9_step_21 : decode cX9_step 21 = .ok (.iload_n 2, 1) := by decide +kernel
theorem dX9_step_22 : decode cX9_step 22 = .ok (.invokevirtual 202, 3) := by decide +kernel
theorem dX9_step_25 : decode cX9_step 25 = .ok (.goto 12, 3) := by decide +kernel
theorem dX9_step_28 : decode cX9_step 28 = .ok (.aload_n 0, 1) := by decide +kernel
theorem dX9_step_29 : decode cX9_step 29 = .ok (.getfield 41, 3) := by decide +kernel
theorem dX9_step_32 : decode cX9_step 32 = .ok (.iload_n 1, 1) := by decide +kernel
theorem dX9_step_33 : decode cX9_step 33 = .ok (.iload_n 2, 1) := by decide +kernel
theorem dX9_step_34 : decode cX9_step 34 = .ok (.invokevirtual 205, 3) := by decide +kernel
theorem dX9_step_37 : decode cX9_step 37 = .ok (.ireturn, 1) := by decide +kernel
theorem dX9_stairs_0 : decode cX9_stairs 0 = .ok (.iload_n 1, 1) := by decide +kernel
theorem dX9_stairs_1 : decode cX9_stairs 1 = .ok (.invokestatic 184, 3) := by decide +kernel
theorem dX9_stairs_4 : decode cX9_stairs 4 = .ok (.ifCond .eq 21, 3) := by decide +kernel
theorem dX9_stairs_7 : decode cX9_stairs 7 = .ok (.aload_n 0, 1) := by decide +kernel
theorem dX9_stairs_8 : decode cX9_stairs 8 = .ok (.iload_n 2, 1) := by decide +kernel
theorem dX9_stairs_9 : decode cX9_stairs 9 = .ok (.invokevirtual 208, 3) := by decide +kernel
theorem dX9_stairs_12 : decode cX9_stairs 12 = .ok (.ifCond .eq 13, 3) := by decide +kernel
theorem dX9_stairs_15 : decode cX9_stairs 15 = .ok (.iload_n 3, 1) := by decide +kernel
theorem dX9_stairs_16 : decode cX9_stairs 16 = .ok (.iconst (-1), 1) := by decide +kernel
theorem dX9_stairs_17 : decode cX9_stairs 17 = .ok (.if_icmp .lt 8, 3) := by decide +kernel
theorem dX9_stairs_20 : decode cX9_stairs 20 = .ok (.iload_n 3, 1) := by decide +kernel
theorem dX9_stairs_21 : decode cX9_stairs 21 = .ok (.iload_n 2, 1) := by decide +kernel
theorem dX9_stairs_22 : decode cX9_stairs 22 = .ok (.if_icmp .lt 5, 3) := by decide +kernel
theorem dX9_stairs_25 : decode cX9_stairs 25 = .ok (.iconst (-1), 1) := by decide +kernel
theorem dX9_stairs_26 : decode cX9_stairs 26 = .ok (.ireturn, 1) := by decide +kernel
theorem dX9_stairs_27 : decode cX9_stairs 27 = .ok (.iload_n 3, 1) := by decide +kernel
theorem dX9_stairs_28 : decode cX9_stairs 28 = .ok (.iconst (-1), 1) := by decide +kernel
theorem dX9_stairs_29 : decode cX9_stairs 29 = .ok (.if_icmp .ne 7, 3) := by decide +kernel
theorem dX9_stairs_32 : decode cX9_stairs 32 = .ok (.iconst 0, 1) := by decide +kernel
theorem dX9_stairs_33 : decode cX9_stairs 33 = .ok (.goto 12, 3) := by decide +kernel
theorem dX9_stairs_36 : decode cX9_stairs 36 = .ok (.aload_n 0, 1) := by decide +kernel
theorem dX9_stairs_37 : decode cX9_stairs 37 = .ok (.getfield 12, 3) := by decide +kernel
theorem dX9_stairs_40 : decode cX9_stairs 40 = .ok (.getfield 215, 3) := by decide +kernel
theorem dX9_stairs_43 : decode cX9_stairs 43 = .ok (.iload_n 3, 1) := by decide +kernel
theorem dX9_stairs_44 : decode cX9_stairs 44 = .ok (.iaload, 1) := by decide +kernel
theorem dX9_stairs_45 : decode cX9_stairs 45 = .ok (.istore 4, 2) := by decide +kernel
theorem dX9_stairs_47 : decode cX9_stairs 47 = .ok (.iload_n 3, 1) := by decide +kernel
theorem dX9_stairs_48 : decode cX9_stairs 48 = .ok (.iconst (-1), 1) := by decide +kernel
theorem dX9_stairs_49 : decode cX9_stairs 49 = .ok (.if_icmp .ne 15, 3) := by decide +kernel
theorem dX9_stairs_52 : decode cX9_stairs 52 = .ok (.aload_n 0, 1) := by decide +kernel
theorem dX9_stairs_53 : decode cX9_stairs 53 = .ok (.getfield 12, 3) := by decide +kernel
theorem dX9_stairs_56 : decode cX9_stairs 56 = .ok (.getfield 215, 3) := by decide +kernel
theorem dX9_stairs_59 : decode cX9_stairs 59 = .ok (.iload_n 2, 1) := by decide +kernel
theorem dX9_stairs_60 : decode cX9_stairs 60 = .ok (.iaload, 1) := by decide +kernel
theorem dX9_stairs_61 : decode cX9_stairs 61 = .ok (.goto 14, 3) := by decide +kernel
theorem dX9_stairs_64 : decode cX9_stairs 64 = .ok (.aload_n 0, 1) := by decide +kernel
theorem dX9_stairs_65 : decode cX9_stairs 65 = .ok (.getfield 12, 3) := by decide +kernel
theorem dX9_stairs_68 : decode cX9_stairs 68 = .ok (.getfield 215, 3) := by decide +kernel
theorem dX9_stairs_71 : decode cX9_stairs 71 = .ok (.iload_n 3, 1) := by decide +kernel
theorem dX9_stairs_72 : decode cX9_stairs 72 = .ok (.iconst 1, 1) := by decide +kernel
theorem dX9_stairs_73 : decode cX9_stairs 73 = .ok (.iadd, 1) := by decide +kernel
theorem dX9_stairs_74 : decode cX9_stairs 74 = .ok (.iaload, 1) := by decide +kernel
theorem dX9_stairs_75 : decode cX9_stairs 75 = .ok (.istore 5, 2) := by decide +kernel
theorem dX9_stairs_77 : decode cX9_stairs 77 = .ok (.aload_n 0, 1) := by decide +kernel
theorem dX9_stairs_78 : decode cX9_stairs 78 = .ok (.iload_n 1, 1) := by decide +kernel
theorem dX9_stairs_79 : decode cX9_stairs 79 = .ok (.invokevirtual 211, 3) := by decide +kernel
theorem dX9_stairs_82 : decode cX9_stairs 82 = .ok (.iconst 0, 1) := by decide +kernel
theorem dX9_stairs_83 : decode cX9_stairs 83 = .ok (.iload 4, 2) := by decide +kernel
theorem dX9_stairs_85 : decode cX9_stairs 85 = .ok (.iload 5, 2) := by decide +kernel
theorem dX9_stairs_87 : decode cX9_stairs 87 = .ok (.invokevirtual 218, 3) := by decide +kernel
theorem dX9_stairs_90 : decode cX9_stairs 90 = .ok (.ireturn, 1) := by decide +kernel
theorem dX9_rest_0 : decode cX9_rest 0 = .ok (.iload_n 1, 1) := by decide +kernel
theorem dX9_rest_1 : decode cX9_rest 1 = .ok (.invokestatic 111, 3) := by decide +kernel
theorem dX9_rest_4 : decode cX9_rest 4 = .ok (.ifCond .eq 26, 3) := by decide +kernel
theorem dX9_rest_7 : decode cX9_rest 7 = .ok (.iload_n 2, 1) := by decide +kernel
theorem dX9_rest_8 : decode cX9_rest 8 = .ok (.invokestatic 184, 3) := by decide +kernel
theorem dX9_rest_11 : decode cX9_rest 11 = .ok (.ifCond .eq 19, 3) := by decide +kernel
theorem dX9_rest_14 : decode cX9_rest 14 = .ok (.aload_n 0, 1) := by decide +kernel
theorem dX9_rest_15 : decode cX9_rest 15 = .ok (.iload_n 3, 1) := by decide +kernel
theorem dX9_rest_16 : decode cX9_rest 16 = .ok (.invokevirtual 208, 3) := by decide +kernel
theorem dX9_rest_19 : decode cX9_rest 19 = .ok (.ifCond .eq 11, 3) := by decide +kernel
theorem dX9_rest_22 : decode cX9_rest 22 = .ok (.iload 4, 2) := by decide +kernel
theorem dX9_rest_24 : decode cX9_rest 24 = .ok (.invokestatic 111, 3) := by decide +kernel
theorem dX9_rest_27 : decode cX9_rest 27 = .ok (.ifCond .ne 5, 3) := by decide +kernel
theorem dX9_rest_30 : decode cX9_rest 30 = .ok (.iconst (-1), 1) := by decide +kernel
theorem dX9_rest_31 : decode cX9_rest 31 = .ok (.ireturn, 1) := by decide +kernel
theorem dX9_rest_32 : decode cX9_rest 32 = .ok (.aload_n 0, 1) := by decide +kernel
theorem dX9_rest_33 : decode cX9_rest 33 = .ok (.iload_n 2, 1) := by decide +kernel
theorem dX9_rest_34 : decode cX9_rest 34 = .ok (.invokevirtual 211, 3) := by decide +kernel
theorem dX9_rest_37 : decode cX9_rest 37 = .ok (.aload_n 0, 1) := by decide +kernel
theorem dX9_rest_38 : decode cX9_rest 38 = .ok (.getfield 20, 3) := by decide +kernel
theorem dX9_rest_41 : decode cX9_rest 41 = .ok (.iload_n 1, 1) := by decide +kernel
theorem dX9_rest_42 : decode cX9_rest 42 = .ok (.aaload, 1) := by decide +kernel
theorem dX9_rest_43 : decode cX9_rest 43 = .ok (.iload_n 3, 1) := by decide +kernel
theorem dX9_rest_44 : decode cX9_rest 44 = .ok (.aload_n 0, 1) := by decide +kernel
theorem dX9_rest_45 : decode cX9_rest 45 = .ok (.getfield 60, 3) := by decide +kernel
theorem dX9_rest_48 : decode cX9_rest 48 = .ok (.aload_n 0, 1) := by decide +kernel
theorem dX9_rest_49 : decode cX9_rest 49 = .ok (.getfield 12, 3) := by decide +kernel
theorem dX9_rest_52 : decode cX9_rest 52 = .ok (.invokevirtual 226, 3) := by decide +kernel
theorem dX9_rest_55 : decode cX9_rest 55 = .ok (.istore 5, 2) := by decide +kernel
theorem dX9_rest_57 : decode cX9_rest 57 = .ok (.iload 5, 2) := by decide +kernel
theorem dX9_rest_59 : decode cX9_rest 59 = .ok (.ifCond .eq 12, 3) := by decide +kernel
theorem dX9_rest_62 : decode cX9_rest 62 = .ok (.aload_n 0, 1) := by decide +kernel
theorem dX9_rest_63 : decode cX9_rest 63 = .ok (.iload 4, 2) := by decide +kernel
theorem dX9_rest_65 : decode cX9_rest 65 = .ok (.invokevirtual 127, 3) := by decide +kernel
theorem dX9_rest_68 : decode cX9_rest 68 = .ok (.goto 4, 3) := by decide +kernel
theorem dX9_rest_71 : decode cX9_rest 71 = .ok (.iconst (-1), 1) := by decide +kernel
theorem dX9_rest_72 : decode cX9_rest 72 = .ok (.ireturn, 1) := by decide +kernel
theorem dX9_look_0 : decode cX9_look 0 = .ok (.iload_n 1, 1) := by decide +kernel
theorem dX9_look_1 : decode cX9_look 1 = .ok (.tableswitch 174 0 10 #[59, 67, 78, 78, 78, 90, 98, 106, 114, 130, 152], 59) := by decide +kernel
theorem dX9_look_60 : decode cX9_look 60 = .ok (.aload_n 0, 1) := by decide +kernel
theorem dX9_look_61 : decode cX9_look 61 = .ok (.getfield 12, 3) := by decide +kernel
theorem dX9_look_64 : decode cX9_look 64 = .ok (.getfield 74, 3) := by decide +kernel
theorem dX9_look_67 : decode cX9_look 67 = .ok (.ireturn, 1) := by decide +kernel
theorem dX9_look_68 : decode cX9_look 68 = .ok (.aload_n 0, 1) := by decide +kernel
theorem dX9_look_69 : decode cX9_look 69 = .ok (.getfield 12, 3) := by decide +kernel
theorem dX9_look_72 : decode cX9_look 72 = .ok (.getfield 81, 3) := by decide +kernel
theorem dX9_look_75 : decode cX9_look 75 = .ok (.getfield 244, 3) := by decide +kernel
theorem dX9_look_78 : decode cX9_look 78 = .ok (.ireturn, 1) := by decide +kernel
theorem dX9_look_79 : decode cX9_look 79 = .ok (.aload_n 0, 1) := by decide +kernel
theorem dX9_look_80 : decode cX9_look 80 = .ok (.getfield 12, 3) := by decide +kernel
theorem dX9_look_83 : decode cX9_look 83 = .ok (.getfield 247, 3) := by decide +kernel
theorem dX9_look_86 : decode cX9_look 86 = .ok (.iload_n 1, 1) := by decide +kernel
theorem dX9_look_87 : decode cX9_look 87 = .ok (.iconst 2, 1) := by decide +kernel
theorem dX9_look_88 : decode cX9_look 88 = .ok (.isub, 1) := by decide +kernel
theorem dX9_look_89 : decode cX9_look 89 = .ok (.iaload, 1) := by decide +kernel
theorem dX9_look_90 : decode cX9_look 90 = .ok (.ireturn, 1) := by decide +kernel
theorem dX9_look_91 : decode cX9_look 91 = .ok (.aload_n 0, 1) := by decide +kernel
theorem dX9_look_92 : decode cX9_look 92 = .ok (.getfield 12, 3) := by decide +kernel
theorem dX9_look_95 : decode cX9_look 95 = .ok (.invokevirtual 250, 3) := by decide +kernel
theorem dX9_look_98 : decode cX9_look 98 = .ok (.ireturn, 1) := by decide +kernel
theorem dX9_look_99 : decode cX9_look 99 = .ok (.aload_n 0, 1) := by decide +kernel
theorem dX9_look_100 : decode cX9_look 100 = .ok (.sipush 255, 3) := by decide +kernel
theorem dX9_look_103 : decode cX9_look 103 = .ok (.invokevirtual 187, 3) := by decide +kernel
theorem dX9_look_106 : decode cX9_look 106 = .ok (.ireturn, 1) := by decide +kernel
theorem dX9_look_107 : decode cX9_look 107 = .ok (.aload_n 0, 1) := by decide +kernel
theorem dX9_look_108 : decode cX9_look 108 = .ok (.getfield 27, 3) := by decide +kernel
theorem dX9_look_111 : decode cX9_look 111 = .ok (.getfield 102, 3) := by decide +kernel
theorem dX9_look_114 : decode cX9_look 114 = .ok (.ireturn, 1) := by decide +kernel
theorem dX9_look_115 : decode cX9_look 115 = .ok (.aload_n 0, 1) := by decide +kernel
theorem dX9_look_116 : decode cX9_look 116 = .ok (.getfield 41, 3) := by decide +kernel
theorem dX9_look_119 : decode cX9_look 119 = .ok (.getfield 198, 3) := by decide +kernel
theorem dX9_look_122 : decode cX9_look 122 = .ok (.ifCond .eq 7, 3) := by decide +kernel
theorem dX9_look_125 : decode cX9_look 125 = .ok (.iconst 1, 1) := by decide +kernel
theorem dX9_look_126 : decode cX9_look 126 = .ok (.goto 4, 3) := by decide +kernel
theorem dX9_look_129 : decode cX9_look 129 = .ok (.iconst 0, 1) := by decide +kernel
theorem dX9_look_130 : decode cX9_look 130 = .ok (.ireturn, 1) := by decide +kernel
theorem dX9_look_131 : decode cX9_look 131 = .ok (.aload_n 0, 1) := by decide +kernel
theorem dX9_look_132 : decode cX9_look 132 = .ok (.getfield 41, 3) := by decide +kernel
theorem dX9_look_135 : decode cX9_look 135 = .ok (.getfield 198, 3) := by decide +kernel
theorem dX9_look_138 : decode cX9_look 138 = .ok (.ifCond .eq 13, 3) := by decide +kernel
theorem dX9_look_141 : decode cX9_look 141 = .ok (.aload_n 0, 1) := by decide +kernel
theorem dX9_look_142 : decode cX9_look 142 = .ok (.getfield 41, 3) := by decide +kernel
theorem dX9_look_145 : decode cX9_look 145 = .ok (.getfield 253, 3) := by decide +kernel
theorem dX9_look_148 : decode cX9_look 148 = .ok (.goto 4, 3) := by decide +kernel
theorem dX9_look_151 : decode cX9_look 151 = .ok (.iconst (-1), 1) := by decide +kernel
theorem dX9_look_152 : decode cX9_look 152 = .ok (.ireturn, 1) := by decide +kernel
theorem dX9_look_153 : decode cX9_look 153 = .ok (.aload_n 0, 1) := by decide +kernel
theorem dX9_look_154 : decode cX9_look 154 = .ok (.getfield 41, 3) := by decide +kernel
theorem dX9_look_157 : decode cX9_look 157 = .ok (.getfield 198, 3) := by decide +kernel
theorem dX9_look_160 : decode cX9_look 160 = .ok (.ifCond .eq 13, 3) := by decide +kernel
theorem dX9_look_163 : decode cX9_look 163 = .ok (.aload_n 0, 1) := by decide +kernel
theorem dX9_look_164 : decode cX9_look 164 = .ok (.getfield 41, 3) := by decide +kernel
theorem dX9_look_167 : decode cX9_look 167 = .ok (.getfield 256, 3) := by decide +kernel
theorem dX9_look_170 : decode cX9_look 170 = .ok (.goto 4, 3) := by decide +kernel
theorem dX9_look_173 : decode cX9_look 173 = .ok (.iconst (-1), 1) := by decide +kernel
theorem dX9_look_174 : decode cX9_look 174 = .ok (.ireturn, 1) := by decide +kernel
theorem dX9_look_175 : decode cX9_look 175 = .ok (.iconst (-1), 1) := by decide +kernel
theorem dX9_look_176 : decode cX9_look 176 = .ok (.ireturn, 1) := by decide +kernel
theorem dX9_polys_0 : decode cX9_polys 0 = .ok (.iload_n 0, 1) := by decide +kernel
theorem dX9_polys_1 : decode cX9_polys 1 = .ok (.iconst 0, 1) := by decide +kernel
theorem dX9_polys_2 : decode cX9_polys 2 = .ok (.invokestatic 259, 3) := by decide +kernel
theorem dX9_polys_5 : decode cX9_polys 5 = .ok (.anewarray 55, 3) := by decide +kernel
theorem dX9_polys_8 : decode cX9_polys 8 = .ok (.astore_n 1, 1) := by decide +kernel
theorem dX9_polys_9 : decode cX9_polys 9 = .ok (.iconst 0, 1) := by decide +kernel
theorem dX9_polys_10 : decode cX9_polys 10 = .ok (.istore_n 2, 1) := by decide +kernel
theorem dX9_polys_11 : decode cX9_polys 11 = .ok (.iload_n 2, 1) := by decide +kernel
theorem dX9_polys_12 : decode cX9_polys 12 = .ok (.aload_n 1, 1) := by decide +kernel
theorem dX9_polys_13 : decode cX9_polys 13 = .ok (.arraylength, 1) := by decide +kernel
theorem dX9_polys_14 : decode cX9_polys 14 = .ok (.if_icmp .ge 21, 3) := by decide +kernel
theorem dX9_polys_17 : decode cX9_polys 17 = .ok (.aload_n 1, 1) := by decide +kernel
theorem dX9_polys_18 : decode cX9_polys 18 = .ok (.iload_n 2, 1) := by decide +kernel
theorem dX9_polys_19 : decode cX9_polys 19 = .ok (.new 55, 3) := by decide +kernel
theorem dX9_polys_22 : decode cX9_polys 22 = .ok (.dup, 1) := by decide +kernel
theorem dX9_polys_23 : decode cX9_polys 23 = .ok (.bipush 60, 2) := by decide +kernel
theorem dX9_polys_25 : decode cX9_polys 25 = .ok (.invokespecial 57, 3) := by decide +kernel
theorem dX9_polys_28 : decode cX9_polys 28 = .ok (.aastore, 1) := by decide +kernel
theorem dX9_polys_29 : decode cX9_polys 29 = .ok (.iinc 2 1, 3) := by decide +kernel
theorem dX9_polys_32 : decode cX9_polys 32 = .ok (.goto (-21), 3) := by decide +kernel
theorem dX9_polys_35 : decode cX9_polys 35 = .ok (.aload_n 1, 1) := by decide +kernel
theorem dX9_polys_36 : decode cX9_polys 36 = .ok (.areturn, 1) := by decide +kernel
theorem dX9_isPrime_0 : decode cX9_isPrime 0 = .ok (.iload_n 0, 1) := by decide +kernel
theorem dX9_isPrime_1 : decode cX9_isPrime 1 = .ok (.iconst 2, 1) := by decide +kernel
theorem dX9_isPrime_2 : decode cX9_isPrime 2 = .ok (.if_icmp .lt 10, 3) := by decide +kernel
theorem dX9_isPrime_5 : decode cX9_isPrime 5 = .ok (.iload_n 0, 1) := by decide +kernel
theorem dX9_isPrime_6 : decode cX9_isPrime 6 = .ok (.sipush 32749, 3) := by decide +kernel
theorem dX9_isPrime_9 : decode cX9_isPrime 9 = .ok (.if_icmp .le 5, 3) := by decide +kernel
theorem dX9_isPrime_12 : decode cX9_isPrime 12 = .ok (.iconst 0, 1) := by decide +kernel
theorem dX9_isPrime_13 : decode cX9_isPrime 13 = .ok (.ireturn, 1) := by decide +kernel
theorem dX9_isPrime_14 : decode cX9_isPrime 14 = .ok (.iconst 2, 1) := by decide +kernel
theorem dX9_isPrime_15 : decode cX9_isPrime 15 = .ok (.istore_n 1, 1) := by decide +kernel
theorem dX9_isPrime_16 : decode cX9_isPrime 16 = .ok (.iload_n 1, 1) := by decide +kernel
theorem dX9_isPrime_17 : decode cX9_isPrime 17 = .ok (.iload_n 1, 1) := by decide +kernel
theorem dX9_isPrime_18 : decode cX9_isPrime 18 = .ok (.imul, 1) := by decide +kernel
theorem dX9_isPrime_19 : decode cX9_isPrime 19 = .ok (.iload_n 0, 1) := by decide +kernel
theorem dX9_isPrime_20 : decode cX9_isPrime 20 = .ok (.if_icmp .gt 17, 3) := by decide +kernel
theorem dX9_isPrime_23 : decode cX9_isPrime 23 = .ok (.iload_n 0, 1) := by decide +kernel
theorem dX9_isPrime_24 : decode cX9_isPrime 24 = .ok (.iload_n 1, 1) := by decide +kernel
theorem dX9_isPrime_25 : decode cX9_isPrime 25 = .ok (.irem, 1) := by decide +kernel
theorem dX9_isPrime_26 : decode cX9_isPrime 26 = .ok (.ifCond .ne 5, 3) := by decide +kernel
theorem dX9_isPrime_29 : decode cX9_isPrime 29 = .ok (.iconst 0, 1) := by decide +kernel
theorem dX9_isPrime_30 : decode cX9_isPrime 30 = .ok (.ireturn, 1) := by decide +kernel
theorem dX9_isPrime_31 : decode cX9_isPrime 31 = .ok (.iinc 1 1, 3) := by decide +kernel
theorem dX9_isPrime_34 : decode cX9_isPrime 34 = .ok (.goto (-18), 3) := by decide +kernel
theorem dX9_isPrime_37 : decode cX9_isPrime 37 = .ok (.iconst 1, 1) := by decide +kernel
theorem dX9_isPrime_38 : decode cX9_isPrime 38 = .ok (.ireturn, 1) := by decide +kernel
theorem dX9_isWeight_0 : decode cX9_isWeight 0 = .ok (.iload_n 0, 1) := by decide +kernel
theorem dX9_isWeight_1 : decode cX9_isWeight 1 = .ok (.iconst 1, 1) := by decide +kernel
theorem dX9_isWeight_2 : decode cX9_isWeight 2 = .ok (.if_icmp .lt 12, 3) := by decide +kernel
theorem dX9_isWeight_5 : decode cX9_isWeight 5 = .ok (.iload_n 0, 1) := by decide +kernel
theorem dX9_isWeight_6 : decode cX9_isWeight 6 = .ok (.iconst 4, 1) := by decide +kernel
theorem dX9_isWeight_7 : decode cX9_isWeight 7 = .ok (.if_icmp .gt 7, 3) := by decide +kernel
theorem dX9_isWeight_10 : decode cX9_isWeight 10 = .ok (.iconst 1, 1) := by decide +kernel
theorem dX9_isWeight_11 : decode cX9_isWeight 11 = .ok (.goto 4, 3) := by decide +kernel
theorem dX9_isWeight_14 : decode cX9_isWeight 14 = .ok (.iconst 0, 1) := by decide +kernel
theorem dX9_isWeight_15 : decode cX9_isWeight 15 = .ok (.ireturn, 1) := by decide +kernel
theorem dX9_isSlot_0 : decode cX9_isSlot 0 = .ok (.iload_n 0, 1) := by decide +kernel
theorem dX9_isSlot_1 : decode cX9_isSlot 1 = .ok (.ifCond .lt 13, 3) := by decide +kernel
theorem dX9_isSlot_4 : decode cX9_isSlot 4 = .ok (.iload_n 0, 1) := by decide +kernel
theorem dX9_isSlot_5 : decode cX9_isSlot 5 = .ok (.bipush 8, 2) := by decide +kernel
theorem dX9_isSlot_7 : decode cX9_isSlot 7 = .ok (.if_icmp .ge 7, 3) := by decide +kernel
theorem dX9_isSlot_10 : decode cX9_isSlot 10 = .ok (.iconst 1, 1) := by decide +kernel
theorem dX9_isSlot_11 : decode cX9_isSlot 11 = .ok (.goto 4, 3) := by decide +kernel
theorem dX9_isSlot_14 : decode cX9_isSlot 14 = .ok (.iconst 0, 1) := by decide +kernel
theorem dX9_isSlot_15 : decode cX9_isSlot 15 = .ok (.ireturn, 1) := by decide +kernel
theorem dX9_isSet_0 : decode cX9_isSet 0 = .ok (.iload_n 0, 1) := by decide +kernel
theorem dX9_isSet_1 : decode cX9_isSet 1 = .ok (.ifCond .lt 14, 3) := by decide +kernel
theorem dX9_isSet_4 : decode cX9_isSet 4 = .ok (.iload_n 0, 1) := by decide +kernel
theorem dX9_isSet_5 : decode cX9_isSet 5 = .ok (.sipush 256, 3) := by decide +kernel
theorem dX9_isSet_8 : decode cX9_isSet 8 = .ok (.if_icmp .ge 7, 3) := by decide +kernel
theorem dX9_isSet_11 : decode cX9_isSet 11 = .ok (.iconst 1, 1) := by decide +kernel
theorem dX9_isSet_12 : decode cX9_isSet 12 = .ok (.goto 4, 3) := by decide +kernel
theorem dX9_isSet_15 : decode cX9_isSet 15 = .ok (.iconst 0, 1) := by decide +kernel
theorem dX9_isSet_16 : decode cX9_isSet 16 = .ok (.ireturn, 1) := by decide +kernel
theorem dX9_isBound_0 : decode cX9_isBound 0 = .ok (.iload_n 1, 1) := by decide +kernel
theorem dX9_isBound_1 : decode cX9_isBound 1 = .ok (.iconst 1, 1) := by decide +kernel
theorem dX9_isBound_2 : decode cX9_isBound 2 = .ok (.if_icmp .lt 18, 3) := by decide +kernel
theorem dX9_isBound_5 : decode cX9_isBound 5 = .ok (.iload_n 1, 1) := by decide +kernel
theorem dX9_isBound_6 : decode cX9_isBound 6 = .ok (.aload_n 0, 1) := by decide +kernel
theorem dX9_isBound_7 : decode cX9_isBound 7 = .ok (.getfield 12, 3) := by decide +kernel
theorem dX9_isBound_10 : decode cX9_isBound 10 = .ok (.invokevirtual 250, 3) := by decide +kernel
theorem dX9_isBound_13 : decode cX9_isBound 13 = .ok (.if_icmp .gt 7, 3) := by decide +kernel
theorem dX9_isBound_16 : decode cX9_isBound 16 = .ok (.iconst 1, 1) := by decide +kernel
theorem dX9_isBound_17 : decode cX9_isBound 17 = .ok (.goto 4, 3) := by decide +kernel
theorem dX9_isBound_20 : decode cX9_isBound 20 = .ok (.iconst 0, 1) := by decide +kernel
theorem dX9_isBound_21 : decode cX9_isBound 21 = .ok (.ireturn, 1) := by decide +kernel
theorem dX9_held_0 : decode cX9_held 0 = .ok (.iconst 0, 1) := by decide +kernel
theorem dX9_held_1 : decode cX9_held 1 = .ok (.istore_n 2, 1) := by decide +kernel
theorem dX9_held_2 : decode cX9_held 2 = .ok (.iconst 0, 1) := by decide +kernel
theorem dX9_held_3 : decode cX9_held 3 = .ok (.istore_n 3, 1) := by decide +kernel
theorem dX9_held_4 : decode cX9_held 4 = .ok (.iload_n 3, 1) := by decide +kernel
theorem dX9_held_5 : decode cX9_held 5 = .ok (.bipush 8, 2) := by decide +kernel
theorem dX9_held_7 : decode cX9_held 7 = .ok (.if_icmp .ge 36, 3) := by decide +kernel
theorem dX9_held_10 : decode cX9_held 10 = .ok (.iload_n 1, 1) := by decide +kernel
theorem dX9_held_11 : decode cX9_held 11 = .ok (.iload_n 3, 1) := by decide +kernel
theorem dX9_held_12 : decode cX9_held 12 = .ok (.ishr, 1) := by decide +kernel
theorem dX9_held_13 : decode cX9_held 13 = .ok (.iconst 1, 1) := by decide +kernel
theorem dX9_held_14 : decode cX9_held 14 = .ok (.iand, 1) := by decide +kernel
theorem dX9_held_15 : decode cX9_held 15 = .ok (.iconst 1, 1) := by decide +kernel
theorem dX9_held_16 : decode cX9_held 16 = .ok (.if_icmp .ne 21, 3) := by decide +kernel
theorem dX9_held_19 : decode cX9_held 19 = .ok (.aload_n 0, 1) := by decide +kernel
theorem dX9_held_20 : decode cX9_held 20 = .ok (.getfield 20, 3) := by decide +kernel
theorem dX9_held_23 : decode cX9_held 23 = .ok (.iload_n 3, 1) := by decide +kernel
theorem dX9_held_24 : decode cX9_held 24 = .ok (.aaload, 1) := by decide +kernel
theorem dX9_held_25 : decode cX9_held 25 = .ok (.getfield 142, 3) := by decide +kernel
theorem dX9_held_28 : decode cX9_held 28 = .ok (.ifCond .le 9, 3) := by decide +kernel
theorem dX9_held_31 : decode cX9_held 31 = .ok (.iload_n 2, 1) := by decide +kernel
theorem dX9_held_32 : decode cX9_held 32 = .ok (.iconst 1, 1) := by decide +kernel
theorem dX9_held_33 : decode cX9_held 33 = .ok (.iload_n 3, 1) := by decide +kernel
theorem dX9_held_34 : decode cX9_held 34 = .ok (.ishl, 1) := by decide +kernel
theorem dX9_held_35 : decode cX9_held 35 = .ok (.ior, 1) := by decide +kernel
theorem dX9_held_36 : decode cX9_held 36 = .ok (.istore_n 2, 1) := by decide +kernel
theorem dX9_held_37 : decode cX9_held 37 = .ok (.iinc 3 1, 3) := by decide +kernel
theorem dX9_held_40 : decode cX9_held 40 = .ok (.goto (-36), 3) := by decide +kernel
theorem dX9_held_43 : decode cX9_held 43 = .ok (.iload_n 2, 1) := by decide +kernel
theorem dX9_held_44 : decode cX9_held 44 = .ok (.ireturn, 1) := by decide +kernel
theorem dX9_putSpare_0 : decode cX9_putSpare 0 = .ok (.aload_n 0, 1) := by decide +kernel
theorem dX9_putSpare_1 : decode cX9_putSpare 1 = .ok (.getfield 20, 3) := by decide +kernel
theorem dX9_putSpare_4 : decode cX9_putSpare 4 = .ok (.iload_n 1, 1) := by decide +kernel
theorem dX9_putSpare_5 : decode cX9_putSpare 5 = .ok (.aaload, 1) := by decide +kernel
theorem dX9_putSpare_6 : decode cX9_putSpare 6 = .ok (.astore_n 2, 1) := by decide +kernel
theorem dX9_putSpare_7 : decode cX9_putSpare 7 = .ok (.aload_n 0, 1) := by decide +kernel
theorem dX9_putSpare_8 : decode cX9_putSpare 8 = .ok (.getfield 20, 3) := by decide +kernel
theorem dX9_putSpare_11 : decode cX9_putSpare 11 = .ok (.iload_n 1, 1) := by decide +kernel
theorem dX9_putSpare_12 : decode cX9_putSpare 12 = .ok (.aload_n 0, 1) := by decide +kernel
theorem dX9_putSpare_13 : decode cX9_putSpare 13 = .ok (.getfield 60, 3) := by decide +kernel
theorem dX9_putSpare_16 : decode cX9_putSpare 16 = .ok (.aastore, 1) := by decide +kernel
theorem dX9_putSpare_17 : decode cX9_putSpare 17 = .ok (.aload_n 0, 1) := by decide +kernel
theorem dX9_putSpare_18 : decode cX9_putSpare 18 = .ok (.aload_n 2, 1) := by decide +kernel
theorem dX9_putSpare_19 : decode cX9_putSpare 19 = .ok (.putfield 60, 3) := by decide +kernel
theorem dX9_putSpare_22 : decode cX9_putSpare 22 = .ok (.aload_n 0, 1) := by decide +kernel
theorem dX9_putSpare_23 : decode cX9_putSpare 23 = .ok (.getfield 47, 3) := by decide +kernel
theorem dX9_putSpare_26 : decode cX9_putSpare 26 = .ok (.astore_n 3, 1) := by decide +kernel
theorem dX9_putSpare_27 : decode cX9_putSpare 27 = .ok (.aload_n 3, 1) := by decide +kernel
theorem dX9_putSpare_28 : decode cX9_putSpare 28 = .ok (.arraylength, 1) := by decide +kernel
theorem dX9_putSpare_29 : decode cX9_putSpare 29 = .ok (.istore 4, 2) := by decide +kernel
theorem dX9_putSpare_31 : decode cX9_putSpare 31 = .ok (.iconst 0, 1) := by decide +kernel
theorem dX9_putSpare_32 : decode cX9_putSpare 32 = .ok (.istore 5, 2) := by decide +kernel
theorem dX9_putSpare_34 : decode cX9_putSpare 34 = .ok (.iload 5, 2) := by decide +kernel
theorem dX9_putSpare_36 : decode cX9_putSpare 36 = .ok (.iload 4, 2) := by decide +kernel
theorem dX9_putSpare_38 : decode cX9_putSpare 38 = .ok (.if_icmp .ge 34, 3) := by decide +kernel
theorem dX9_putSpare_41 : decode cX9_putSpare 41 = .ok (.aload_n 3, 1) := by decide +kernel
theorem dX9_putSpare_42 : decode cX9_putSpare 42 = .ok (.iload 5, 2) := by decide +kernel
theorem dX9_putSpare_44 : decode cX9_putSpare 44 = .ok (.aaload, 1) := by decide +kernel
theorem dX9_putSpare_45 : decode cX9_putSpare 45 = .ok (.astore 6, 2) := by decide +kernel
theorem dX9_putSpare_47 : decode cX9_putSpare 47 = .ok (.aload 6, 2) := by decide +kernel
theorem dX9_putSpare_49 : decode cX9_putSpare 49 = .ok (.getfield 264, 3) := by decide +kernel
theorem dX9_putSpare_52 : decode cX9_putSpare 52 = .ok (.iload_n 1, 1) := by decide +kernel
theorem dX9_putSpare_53 : decode cX9_putSpare 53 = .ok (.ishr, 1) := by decide +kernel
theorem dX9_putSpare_54 : decode cX9_putSpare 54 = .ok (.iconst 1, 1) := by decide +kernel
theorem dX9_putSpare_55 : decode cX9_putSpare 55 = .ok (.iand, 1) := by decide +kernel
theorem dX9_putSpare_56 : decode cX9_putSpare 56 = .ok (.iconst 1, 1) := by decide +kernel
theorem dX9_putSpare_57 : decode cX9_putSpare 57 = .ok (.if_icmp .ne 9, 3) := by decide +kernel
theorem dX9_putSpare_60 : decode cX9_putSpare 60 = .ok (.aload 6, 2) := by decide +kernel
theorem dX9_putSpare_62 : decode cX9_putSpare 62 = .ok (.iconst (-1), 1) := by decide +kernel
theorem dX9_putSpare_63 : decode cX9_putSpare 63 = .ok (.putfield 264, 3) := by decide +kernel
theorem dX9_putSpare_66 : decode cX9_putSpare 66 = .ok (.iinc 5 1, 3) := by decide +kernel
theorem dX9_putSpare_69 : decode cX9_putSpare 69 = .ok (.goto (-35), 3) := by decide +kernel
theorem dX9_putSpare_72 : decode cX9_putSpare 72 = .ok (.aload_n 0, 1) := by decide +kernel
theorem dX9_putSpare_73 : decode cX9_putSpare 73 = .ok (.getfield 20, 3) := by decide +kernel
theorem dX9_putSpare_76 : decode cX9_putSpare 76 = .ok (.iload_n 1, 1) := by decide +kernel
theorem dX9_putSpare_77 : decode cX9_putSpare 77 = .ok (.aaload, 1) := by decide +kernel
theorem dX9_putSpare_78 : decode cX9_putSpare 78 = .ok (.getfield 142, 3) := by decide +kernel
theorem dX9_putSpare_81 : decode cX9_putSpare 81 = .ok (.ireturn, 1) := by decide +kernel
theorem dX9_forgetWhatWasWorkedOut_0 : decode cX9_forgetWhatWasWorkedOut 0 = .ok (.aload_n 0, 1) := by decide +kernel
theorem dX9_forgetWhatWasWorkedOut_1 : decode cX9_forgetWhatWasWorkedOut 1 = .ok (.getfield 41, 3) := by decide +kernel
theorem dX9_forgetWhatWasWorkedOut_4 : decode cX9_forgetWhatWasWorkedOut 4 = .ok (.iconst 0, 1) := by decide +kernel
theorem dX9_forgetWhatWasWorkedOut_5 : decode cX9_forgetWhatWasWorkedOut 5 = .ok (.putfield 198, 3) := by decide +kernel
theorem dX9_forgetWhatWasWorkedOut_8 : decode cX9_forgetWhatWasWorkedOut 8 = .ok (.aload_n 0, 1) := by decide +kernel
theorem dX9_forgetWhatWasWorkedOut_9 : decode cX9_forgetWhatWasWorkedOut 9 = .ok (.getfield 47, 3) := by decide +kernel
theorem dX9_forgetWhatWasWorkedOut_12 : decode cX9_forgetWhatWasWorkedOut 12 = .ok (.astore_n 1, 1) := by decide +kernel
theorem dX9_forgetWhatWasWorkedOut_13 : decode cX9_forgetWhatWasWorkedOut 13 = .ok (.aload_n 1, 1) := by decide +kernel
theorem dX9_forgetWhatWasWorkedOut_14 : decode cX9_forgetWhatWasWorkedOut 14 = .ok (.arraylength, 1) := by decide +kernel
theorem dX9_forgetWhatWasWorkedOut_15 : decode cX9_forgetWhatWasWorkedOut 15 = .ok (.istore_n 2, 1) := by decide +kernel
theorem dX9_forgetWhatWasWorkedOut_16 : decode cX9_forgetWhatWasWorkedOut 16 = .ok (.iconst 0, 1) := by decide +kernel
theorem dX9_forgetWhatWasWorkedOut_17 : decode cX9_forgetWhatWasWorkedOut 17 = .ok (.istore_n 3, 1) := by decide +kernel
theorem dX9_forgetWhatWasWorkedOut_18 : decode cX9_forgetWhatWasWorkedOut 18 = .ok (.iload_n 3, 1) := by decide +kernel
theorem dX9_forgetWhatWasWorkedOut_19 : decode cX9_forgetWhatWasWorkedOut 19 = .ok (.iload_n 2, 1) := by decide +kernel
theorem dX9_forgetWhatWasWorkedOut_20 : decode cX9_forgetWhatWasWorkedOut 20 = .ok (.if_icmp .ge 20, 3) := by decide +kernel
theorem dX9_forgetWhatWasWorkedOut_23 : decode cX9_forgetWhatWasWorkedOut 23 = .ok (.aload_n 1, 1) := by decide +kernel
theorem dX9_forgetWhatWasWorkedOut_24 : decode cX9_forgetWhatWasWorkedOut 24 = .ok (.iload_n 3, 1) := by decide +kernel
theorem dX9_forgetWhatWasWorkedOut_25 : decode cX9_forgetWhatWasWorkedOut 25 = .ok (.aaload, 1) := by decide +kernel
theorem dX9_forgetWhatWasWorkedOut_26 : decode cX9_forgetWhatWasWorkedOut 26 = .ok (.astore 4, 2) := by decide +kernel
theorem dX9_forgetWhatWasWorkedOut_28 : decode cX9_forgetWhatWasWorkedOut 28 = .ok (.aload 4, 2) := by decide +kernel
theorem dX9_forgetWhatWasWorkedOut_30 : decode cX9_forgetWhatWasWorkedOut 30 = .ok (.iconst (-1), 1) := by decide +kernel
theorem dX9_forgetWhatWasWorkedOut_31 : decode cX9_forgetWhatWasWorkedOut 31 = .ok (.putfield 264, 3) := by decide +kernel
theorem dX9_forgetWhatWasWorkedOut_34 : decode cX9_forgetWhatWasWorkedOut 34 = .ok (.iinc 3 1, 3) := by decide +kernel
theorem dX9_forgetWhatWasWorkedOut_37 : decode cX9_forgetWhatWasWorkedOut 37 = .ok (.goto (-19), 3) := by decide +kernel
theorem dX9_forgetWhatWasWorkedOut_40 : decode cX9_forgetWhatWasWorkedOut 40 = .ok (.return_, 1) := by decide +kernel
theorem dX9_multiply_0 : decode cX9_multiply 0 = .ok (.aload_n 0, 1) := by decide +kernel
theorem dX9_multiply_1 : decode cX9_multiply 1 = .ok (.getfield 64, 3) := by decide +kernel
theorem dX9_multiply_4 : decode cX9_multiply 4 = .ok (.invokevirtual 89, 3) := by decide +kernel
theorem dX9_multiply_7 : decode cX9_multiply 7 = .ok (.iconst 0, 1) := by decide +kernel
theorem dX9_multiply_8 : decode cX9_multiply 8 = .ok (.istore_n 3, 1) := by decide +kernel
theorem dX9_multiply_9 : decode cX9_multiply 9 = .ok (.iload_n 3, 1) := by decide +kernel
theorem dX9_multiply_10 : decode cX9_multiply 10 = .ok (.aload_n 1, 1) := by decide +kernel
theorem dX9_multiply_11 : decode cX9_multiply 11 = .ok (.getfield 142, 3) := by decide +kernel
theorem dX9_multiply_14 : decode cX9_multiply 14 = .ok (.if_icmp .ge 65, 3) := by decide +kernel
theorem dX9_multiply_17 : decode cX9_multiply 17 = .ok (.aload_n 0, 1) := by decide +kernel
theorem dX9_multiply_18 : decode cX9_multiply 18 = .ok (.getfield 67, 3) := by decide +kernel
theorem dX9_multiply_21 : decode cX9_multiply 21 = .ok (.aload_n 0, 1) := by decide +kernel
theorem dX9_multiply_22 : decode cX9_multiply 22 = .ok (.getfield 64, 3) := by decide +kernel
theorem dX9_multiply_25 : decode cX9_multiply 25 = .ok (.aload_n 1, 1) := by decide +kernel
theorem dX9_multiply_26 : decode cX9_multiply 26 = .ok (.getfield 143, 3) := by decide +kernel
theorem dX9_multiply_29 : decode cX9_multiply 29 = .ok (.iload_n 3, 1) := by decide +kernel
theorem dX9_multiply_30 : decode cX9_multiply 30 = .ok (.iaload, 1) := by decide +kernel
theorem dX9_multiply_31 : decode cX9_multiply 31 = .ok (.aload_n 1, 1) := by decide +kernel
theorem dX9_multiply_32 : decode cX9_multiply 32 = .ok (.getfield 146, 3) := by decide +kernel
theorem dX9_multiply_35 : decode cX9_multiply 35 = .ok (.iload_n 3, 1) := by decide +kernel
theorem dX9_multiply_36 : decode cX9_multiply 36 = .ok (.iaload, 1) := by decide +kernel
theorem dX9_multiply_37 : decode cX9_multiply 37 = .ok (.aload_n 2, 1) := by decide +kernel
theorem dX9_multiply_38 : decode cX9_multiply 38 = .ok (.aload_n 0, 1) := by decide +kernel
theorem dX9_multiply_39 : decode cX9_multiply 39 = .ok (.getfield 12, 3) := by decide +kernel
theorem dX9_multiply_42 : decode cX9_multiply 42 = .ok (.getfield 81, 3) := by decide +kernel
theorem dX9_multiply_45 : decode cX9_multiply 45 = .ok (.invokevirtual 166, 3) := by decide +kernel
theorem dX9_multiply_48 : decode cX9_multiply 48 = .ok (.ifCond .ne 5, 3) := by decide +kernel
theorem dX9_multiply_51 : decode cX9_multiply 51 = .ok (.iconst 0, 1) := by decide +kernel
theorem dX9_multiply_52 : decode cX9_multiply 52 = .ok (.ireturn, 1) := by decide +kernel
theorem dX9_multiply_53 : decode cX9_multiply 53 = .ok (.aload_n 0, 1) := by decide +kernel
theorem dX9_multiply_54 : decode cX9_multiply 54 = .ok (.getfield 67, 3) := by decide +kernel
theorem dX9_multiply_57 : decode cX9_multiply 57 = .ok (.astore 4, 2) := by decide +kernel
theorem dX9_multiply_59 : decode cX9_multiply 59 = .ok (.aload_n 0, 1) := by decide +kernel
theorem dX9_multiply_60 : decode cX9_multiply 60 = .ok (.aload_n 0, 1) := by decide +kernel
theorem dX9_multiply_61 : decode cX9_multiply 61 = .ok (.getfield 64, 3) := by decide +kernel
theorem dX9_multiply_64 : decode cX9_multiply 64 = .ok (.putfield 67, 3) := by decide +kernel
theorem dX9_multiply_67 : decode cX9_multiply 67 = .ok (.aload_n 0, 1) := by decide +kernel
theorem dX9_multiply_68 : decode cX9_multiply 68 = .ok (.aload 4, 2) := by decide +kernel
theorem dX9_multiply_70 : decode cX9_multiply 70 = .ok (.putfield 64, 3) := by decide +kernel
theorem dX9_multiply_73 : decode cX9_multiply 73 = .ok (.iinc 3 1, 3) := by decide +kernel
theorem dX9_multiply_76 : decode cX9_multiply 76 = .ok (.goto (-67), 3) := by decide +kernel
theorem dX9_multiply_79 : decode cX9_multiply 79 = .ok (.aload_n 0, 1) := by decide +kernel
theorem dX9_multiply_80 : decode cX9_multiply 80 = .ok (.getfield 64, 3) := by decide +kernel
theorem dX9_multiply_83 : decode cX9_multiply 83 = .ok (.getfield 142, 3) := by decide +kernel
theorem dX9_multiply_86 : decode cX9_multiply 86 = .ok (.bipush 60, 2) := by decide +kernel
theorem dX9_multiply_88 : decode cX9_multiply 88 = .ok (.if_icmp .le 5, 3) := by decide +kernel
theorem dX9_multiply_91 : decode cX9_multiply 91 = .ok (.iconst 0, 1) := by decide +kernel
theorem dX9_multiply_92 : decode cX9_multiply 92 = .ok (.ireturn, 1) := by decide +kernel
theorem dX9_multiply_93 : decode cX9_multiply 93 = .ok (.aload_n 0, 1) := by decide +kernel
theorem dX9_multiply_94 : decode cX9_multiply 94 = .ok (.getfield 60, 3) := by decide +kernel
theorem dX9_multiply_97 : decode cX9_multiply 97 = .ok (.aload_n 0, 1) := by decide +kernel
theorem dX9_multiply_98 : decode cX9_multiply 98 = .ok (.getfield 64, 3) := by decide +kernel
theorem dX9_multiply_101 : decode cX9_multiply 101 = .ok (.invokevirtual 123, 3) := by decide +kernel
theorem dX9_multiply_104 : decode cX9_multiply 104 = .ok (.iconst 1, 1) := by decide +kernel
theorem dX9_multiply_105 : decode cX9_multiply 105 = .ok (.ireturn, 1) := by decide +kernel
theorem dX9_oldestIdeal_0 : decode cX9_oldestIdeal 0 = .ok (.aload_n 0, 1) := by decide +kernel
theorem dX9_oldestIdeal_1 : decode cX9_oldestIdeal 1 = .ok (.getfield 47, 3) := by decide +kernel
theorem dX9_oldestIdeal_4 : decode cX9_oldestIdeal 4 = .ok (.aload_n 0, 1) := by decide +kernel
theorem dX9_oldestIdeal_5 : decode cX9_oldestIdeal 5 = .ok (.getfield 265, 3) := by decide +kernel
theorem dX9_oldestIdeal_8 : decode cX9_oldestIdeal 8 = .ok (.aaload, 1) := by decide +kernel
theorem dX9_oldestIdeal_9 : decode cX9_oldestIdeal 9 = .ok (.astore_n 1, 1) := by decide +kernel
theorem dX9_oldestIdeal_10 : decode cX9_oldestIdeal 10 = .ok (.aload_n 0, 1) := by decide +kernel
theorem dX9_oldestIdeal_11 : decode cX9_oldestIdeal 11 = .ok (.aload_n 0, 1) := by decide +kernel
theorem dX9_oldestIdeal_12 : decode cX9_oldestIdeal 12 = .ok (.getfield 265, 3) := by decide +kernel
theorem dX9_oldestIdeal_15 : decode cX9_oldestIdeal 15 = .ok (.iconst 1, 1) := by decide +kernel
theorem dX9_oldestIdeal_16 : decode cX9_oldestIdeal 16 = .ok (.iadd, 1) := by decide +kernel
theorem dX9_oldestIdeal_17 : decode cX9_oldestIdeal 17 = .ok (.iconst 4, 1) := by decide +kernel
theorem dX9_oldestIdeal_18 : decode cX9_oldestIdeal 18 = .ok (.if_icmp .ge 12, 3) := by decide +kernel
theorem dX9_oldestIdeal_21 : decode cX9_oldestIdeal 21 = .ok (.aload_n 0, 1) := by decide +kernel
theorem dX9_oldestIdeal_22 : decode cX9_oldestIdeal 22 = .ok (.getfield 265, 3) := by decide +kernel
theorem dX9_oldestIdeal_25 : decode cX9_oldestIdeal 25 = .ok (.iconst 1, 1) := by decide +kernel
theorem dX9_oldestIdeal_26 : decode cX9_oldestIdeal 26 = .ok (.iadd, 1) := by decide +kernel
theorem dX9_oldestIdeal_27 : decode cX9_oldestIdeal 27 = .ok (.goto 4, 3) := by decide +kernel
theorem dX9_oldestIdeal_30 : decode cX9_oldestIdeal 30 = .ok (.iconst 0, 1) := by decide +kernel
theorem dX9_oldestIdeal_31 : decode cX9_oldestIdeal 31 = .ok (.putfield 265, 3) := by decide +kernel
theorem dX9_oldestIdeal_34 : decode cX9_oldestIdeal 34 = .ok (.aload_n 1, 1) := by decide +kernel
theorem dX9_oldestIdeal_35 : decode cX9_oldestIdeal 35 = .ok (.iconst (-1), 1) := by decide +kernel
theorem dX9_oldestIdeal_36 : decode cX9_oldestIdeal 36 = .ok (.putfield 264, 3) := by decide +kernel
theorem dX9_oldestIdeal_39 : decode cX9_oldestIdeal 39 = .ok (.aload_n 1, 1) := by decide +kernel
theorem dX9_oldestIdeal_40 : decode cX9_oldestIdeal 40 = .ok (.areturn, 1) := by decide +kernel
theorem dX9_idealOf_0 : decode cX9_idealOf 0 = .ok (.aload_n 0, 1) := by decide +kernel
theorem dX9_idealOf_1 : decode cX9_idealOf 1 = .ok (.iload_n 1, 1) := by decide +kernel
theorem dX9_idealOf_2 : decode cX9_idealOf 2 = .ok (.invokevirtual 187, 3) := by decide +kernel
theorem dX9_idealOf_5 : decode cX9_idealOf 5 = .ok (.istore_n 2, 1) := by decide +kernel
theorem dX9_idealOf_6 : decode cX9_idealOf 6 = .ok (.aload_n 0, 1) := by decide +kernel
theorem dX9_idealOf_7 : decode cX9_idealOf 7 = .ok (.getfield 47, 3) := by decide +kernel
theorem dX9_idealOf_10 : decode cX9_idealOf 10 = .ok (.astore_n 3, 1) := by decide +kernel
theorem dX9_idealOf_11 : decode cX9_idealOf 11 = .ok (.aload_n 3, 1) := by decide +kernel
theorem dX9_idealOf_12 : decode cX9_idealOf 12 = .ok (.arraylength, 1) := by decide +kernel
theorem dX9_idealOf_13 : decode cX9_idealOf 13 = .ok (.istore 4, 2) := by decide +kernel
theorem dX9_idealOf_15 : decode cX9_idealOf 15 = .ok (.iconst 0, 1) := by decide +kernel
theorem dX9_idealOf_16 : decode cX9_idealOf 16 = .ok (.istore 5, 2) := by decide +kernel
theorem dX9_idealOf_18 : decode cX9_idealOf 18 = .ok (.iload 5, 2) := by decide +kernel
theorem dX9_idealOf_20 : decode cX9_idealOf 20 = .ok (.iload 4, 2) := by decide +kernel
theorem dX9_idealOf_22 : decode cX9_idealOf 22 = .ok (.if_icmp .ge 27, 3) := by decide +kernel
theorem dX9_idealOf_25 : decode cX9_idealOf 25 = .ok (.aload_n 3, 1) := by decide +kernel
theorem dX9_idealOf_26 : decode cX9_idealOf 26 = .ok (.iload 5, 2) := by decide +kernel
theorem dX9_idealOf_28 : decode cX9_idealOf 28 = .ok (.aaload, 1) := by decide +kernel
theorem dX9_idealOf_29 : decode cX9_idealOf 29 = .ok (.astore 6, 2) := by decide +kernel
theorem dX9_idealOf_31 : decode cX9_idealOf 31 = .ok (.aload 6, 2) := by decide +kernel
theorem dX9_idealOf_33 : decode cX9_idealOf 33 = .ok (.getfield 264, 3) := by decide +kernel
theorem dX9_idealOf_36 : decode cX9_idealOf 36 = .ok (.iload_n 2, 1) := by decide +kernel
theorem dX9_idealOf_37 : decode cX9_idealOf 37 = .ok (.if_icmp .ne 6, 3) := by decide +kernel
theorem dX9_idealOf_40 : decode cX9_idealOf 40 = .ok (.aload 6, 2) := by decide +kernel
theorem dX9_idealOf_42 : decode cX9_idealOf 42 = .ok (.areturn, 1) := by decide +kernel
theorem dX9_idealOf_43 : decode cX9_idealOf 43 = .ok (.iinc 5 1, 3) := by decide +kernel
theorem dX9_idealOf_46 : decode cX9_idealOf 46 = .ok (.goto (-28), 3) := by decide +kernel
theorem dX9_idealOf_49 : decode cX9_idealOf 49 = .ok (.aload_n 0, 1) := by decide +kernel
theorem dX9_idealOf_50 : decode cX9_idealOf 50 = .ok (.invokevirtual 236, 3) := by decide +kernel
theorem dX9_idealOf_53 : decode cX9_idealOf 53 = .ok (.astore_n 3, 1) := by decide +kernel
theorem dX9_idealOf_54 : decode cX9_idealOf 54 = .ok (.aload_n 3, 1) := by decide +kernel
theorem dX9_idealOf_55 : decode cX9_idealOf 55 = .ok (.aload_n 0, 1) := by decide +kernel
theorem dX9_idealOf_56 : decode cX9_idealOf 56 = .ok (.getfield 20, 3) := by decide +kernel
theorem dX9_idealOf_59 : decode cX9_idealOf 59 = .ok (.iload_n 2, 1) := by decide +kernel
theorem dX9_idealOf_60 : decode cX9_idealOf 60 = .ok (.aload_n 0, 1) := by decide +kernel
theorem dX9_idealOf_61 : decode cX9_idealOf 61 = .ok (.getfield 12, 3) := by decide +kernel
theorem dX9_idealOf_64 : decode cX9_idealOf 64 = .ok (.invokevirtual 240, 3) := by decide +kernel
theorem dX9_idealOf_67 : decode cX9_idealOf 67 = .ok (.aload_n 3, 1) := by decide +kernel
theorem dX9_idealOf_68 : decode cX9_idealOf 68 = .ok (.iload_n 2, 1) := by decide +kernel
theorem dX9_idealOf_69 : decode cX9_idealOf 69 = .ok (.putfield 264, 3) := by decide +kernel
theorem dX9_idealOf_72 : decode cX9_idealOf 72 = .ok (.aload_n 3, 1) := by decide +kernel
theorem dX9_idealOf_73 : decode cX9_idealOf 73 = .ok (.areturn, 1) := by decide +kernel
theorem dX9_tellMono_0 : decode cX9_tellMono 0 = .ok (.iload_n 1, 1) := by decide +kernel
theorem dX9_tellMono_1 : decode cX9_tellMono 1 = .ok (.iconst 3, 1) := by decide +kernel
theorem dX9_tellMono_2 : decode cX9_tellMono 2 = .ok (.if_icmp .ne 10, 3) := by decide +kernel
theorem dX9_tellMono_5 : decode cX9_tellMono 5 = .ok (.iload_n 0, 1) := by decide +kernel
theorem dX9_tellMono_6 : decode cX9_tellMono 6 = .ok (.invokestatic 272, 3) := by decide +kernel
theorem dX9_tellMono_9 : decode cX9_tellMono 9 = .ok (.goto 8, 3) := by decide +kernel
theorem dX9_tellMono_12 : decode cX9_tellMono 12 = .ok (.iload_n 0, 1) := by decide +kernel
theorem dX9_tellMono_13 : decode cX9_tellMono 13 = .ok (.iload_n 1, 1) := by decide +kernel
theorem dX9_tellMono_14 : decode cX9_tellMono 14 = .ok (.invokestatic 275, 3) := by decide +kernel
theorem dX9_tellMono_17 : decode cX9_tellMono 17 = .ok (.ireturn, 1) := by decide +kernel
