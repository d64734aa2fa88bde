theorem dX6_init_0 : decode cX6_init 0 = .ok (.aload_n 0, 1) := by decide +kernel
theorem dX6_init_1 : decode cX6_init 1 = .ok (.invokespecial 3, 3) := by decide +kernel
theorem dX6_init_4 : decode cX6_init 4 = .ok (.aload_n 0, 1) := by decide +kernel
theorem dX6_init_5 : decode cX6_init 5 = .ok (.iconst 2, 1) := by decide +kernel
theorem dX6_init_6 : decode cX6_init 6 = .ok (.putfield 9, 3) := by decide +kernel
theorem dX6_init_9 : decode cX6_init 9 = .ok (.aload_n 0, 1) := by decide +kernel
theorem dX6_init_10 : decode cX6_init 10 = .ok (.new 15, 3) := by decide +kernel
theorem dX6_init_13 : decode cX6_init 13 = .ok (.dup, 1) := by decide +kernel
theorem dX6_init_14 : decode cX6_init 14 = .ok (.sipush 32003, 3) := by decide +kernel
theorem dX6_init_17 : decode cX6_init 17 = .ok (.invokespecial 17, 3) := by decide +kernel
theorem dX6_init_20 : decode cX6_init 20 = .ok (.putfield 20, 3) := by decide +kernel
theorem dX6_init_23 : decode cX6_init 23 = .ok (.aload_n 0, 1) := by decide +kernel
theorem dX6_init_24 : decode cX6_init 24 = .ok (.iconst 3, 1) := by decide +kernel
theorem dX6_init_25 : decode cX6_init 25 = .ok (.newarray .int, 2) := by decide +kernel
theorem dX6_init_27 : decode cX6_init 27 = .ok (.putfield 24, 3) := by decide +kernel
theorem dX6_init_30 : decode cX6_init 30 = .ok (.aload_n 0, 1) := by decide +kernel
theorem dX6_init_31 : decode cX6_init 31 = .ok (.sipush 165, 3) := by decide +kernel
theorem dX6_init_34 : decode cX6_init 34 = .ok (.newarray .int, 2) := by decide +kernel
theorem dX6_init_36 : decode cX6_init 36 = .ok (.putfield 28, 3) := by decide +kernel
theorem dX6_init_39 : decode cX6_init 39 = .ok (.aload_n 0, 1) := by decide +kernel
theorem dX6_init_40 : decode cX6_init 40 = .ok (.bipush 26, 2) := by decide +kernel
theorem dX6_init_42 : decode cX6_init 42 = .ok (.newarray .int, 2) := by decide +kernel
theorem dX6_init_44 : decode cX6_init 44 = .ok (.putfield 31, 3) := by decide +kernel
theorem dX6_init_47 : decode cX6_init 47 = .ok (.aload_n 0, 1) := by decide +kernel
theorem dX6_init_48 : decode cX6_init 48 = .ok (.iconst 3, 1) := by decide +kernel
theorem dX6_init_49 : decode cX6_init 49 = .ok (.bipush 120, 2) := by decide +kernel
theorem dX6_init_51 : decode cX6_init 51 = .ok (.multianewarray 34 2, 4) := by decide +kernel
theorem dX6_init_55 : decode cX6_init 55 = .ok (.putfield 36, 3) := by decide +kernel
theorem dX6_init_58 : decode cX6_init 58 = .ok (.aload_n 0, 1) := by decide +kernel
theorem dX6_init_59 : decode cX6_init 59 = .ok (.iconst 1, 1) := by decide +kernel
theorem dX6_init_60 : decode cX6_init 60 = .ok (.iconst 1, 1) := by decide +kernel
theorem dX6_init_61 : decode cX6_init 61 = .ok (.iconst 1, 1) := by decide +kernel
theorem dX6_init_62 : decode cX6_init 62 = .ok (.invokevirtual 39, 3) := by decide +kernel
theorem dX6_init_65 : decode cX6_init 65 = .ok (.return_, 1) := by decide +kernel
theorem dX6_bound_0 : decode cX6_bound 0 = .ok (.aload_n 0, 1) := by decide +kernel
theorem dX6_bound_1 : decode cX6_bound 1 = .ok (.getfield 9, 3) := by decide +kernel
theorem dX6_bound_4 : decode cX6_bound 4 = .ok (.iconst 1, 1) := by decide +kernel
theorem dX6_bound_5 : decode cX6_bound 5 = .ok (.if_icmp .ne 8, 3) := by decide +kernel
theorem dX6_bound_8 : decode cX6_bound 8 = .ok (.bipush 24, 2) := by decide +kernel
theorem dX6_bound_10 : decode cX6_bound 10 = .ok (.goto 18, 3) := by decide +kernel
theorem dX6_bound_13 : decode cX6_bound 13 = .ok (.aload_n 0, 1) := by decide +kernel
theorem dX6_bound_14 : decode cX6_bound 14 = .ok (.getfield 9, 3) := by decide +kernel
theorem dX6_bound_17 : decode cX6_bound 17 = .ok (.iconst 2, 1) := by decide +kernel
theorem dX6_bound_18 : decode cX6_bound 18 = .ok (.if_icmp .ne 8, 3) := by decide +kernel
theorem dX6_bound_21 : decode cX6_bound 21 = .ok (.bipush 12, 2) := by decide +kernel
theorem dX6_bound_23 : decode cX6_bound 23 = .ok (.goto 5, 3) := by decide +kernel
theorem dX6_bound_26 : decode cX6_bound 26 = .ok (.bipush 8, 2) := by decide +kernel
theorem dX6_bound_28 : decode cX6_bound 28 = .ok (.ireturn, 1) := by decide +kernel
theorem dX6_width_0 : decode cX6_width 0 = .ok (.aload_n 0, 1) := by decide +kernel
theorem dX6_width_1 : decode cX6_width 1 = .ok (.getfield 31, 3) := by decide +kernel
theorem dX6_width_4 : decode cX6_width 4 = .ok (.aload_n 0, 1) := by decide +kernel
theorem dX6_width_5 : decode cX6_width 5 = .ok (.invokevirtual 43, 3) := by decide +kernel
theorem dX6_width_8 : decode cX6_width 8 = .ok (.iaload, 1) := by decide +kernel
theorem dX6_width_9 : decode cX6_width 9 = .ok (.ireturn, 1) := by decide +kernel
theorem dX6_weigh_0 : decode cX6_weigh 0 = .ok (.aload_n 0, 1) := by decide +kernel
theorem dX6_weigh_1 : decode cX6_weigh 1 = .ok (.getfield 24, 3) := by decide +kernel
theorem dX6_weigh_4 : decode cX6_weigh 4 = .ok (.iconst 0, 1) := by decide +kernel
theorem dX6_weigh_5 : decode cX6_weigh 5 = .ok (.iload_n 1, 1) := by decide +kernel
theorem dX6_weigh_6 : decode cX6_weigh 6 = .ok (.iastore, 1) := by decide +kernel
theorem dX6_weigh_7 : decode cX6_weigh 7 = .ok (.aload_n 0, 1) := by decide +kernel
theorem dX6_weigh_8 : decode cX6_weigh 8 = .ok (.getfield 24, 3) := by decide +kernel
theorem dX6_weigh_11 : decode cX6_weigh 11 = .ok (.iconst 1, 1) := by decide +kernel
theorem dX6_weigh_12 : decode cX6_weigh 12 = .ok (.iload_n 2, 1) := by decide +kernel
theorem dX6_weigh_13 : decode cX6_weigh 13 = .ok (.iastore, 1) := by decide +kernel
theorem dX6_weigh_14 : decode cX6_weigh 14 = .ok (.aload_n 0, 1) := by decide +kernel
theorem dX6_weigh_15 : decode cX6_weigh 15 = .ok (.getfield 24, 3) := by decide +kernel
theorem dX6_weigh_18 : decode cX6_weigh 18 = .ok (.iconst 2, 1) := by decide +kernel
theorem dX6_weigh_19 : decode cX6_weigh 19 = .ok (.iload_n 3, 1) := by decide +kernel
theorem dX6_weigh_20 : decode cX6_weigh 20 = .ok (.iastore, 1) := by decide +kernel
theorem dX6_weigh_21 : decode cX6_weigh 21 = .ok (.aload_n 0, 1) := by decide +kernel
theorem dX6_weigh_22 : decode cX6_weigh 22 = .ok (.iconst 0, 1) := by decide +kernel
theorem dX6_weigh_23 : decode cX6_weigh 23 = .ok (.putfield 47, 3) := by decide +kernel
theorem dX6_weigh_26 : decode cX6_weigh 26 = .ok (.iconst 0, 1) := by decide +kernel
theorem dX6_weigh_27 : decode cX6_weigh 27 = .ok (.istore 4, 2) := by decide +kernel
theorem dX6_weigh_29 : decode cX6_weigh 29 = .ok (.iload 4, 2) := by decide +kernel
theorem dX6_weigh_31 : decode cX6_weigh 31 = .ok (.aload_n 0, 1) := by decide +kernel
theorem dX6_weigh_32 : decode cX6_weigh 32 = .ok (.invokevirtual 43, 3) := by decide +kernel
theorem dX6_weigh_35 : decode cX6_weigh 35 = .ok (.if_icmp .gt 26, 3) := by decide +kernel
theorem dX6_weigh_38 : decode cX6_weigh 38 = .ok (.aload_n 0, 1) := by decide +kernel
theorem dX6_weigh_39 : decode cX6_weigh 39 = .ok (.getfield 31, 3) := by decide +kernel
theorem dX6_weigh_42 : decode cX6_weigh 42 = .ok (.iload 4, 2) := by decide +kernel
theorem dX6_weigh_44 : decode cX6_weigh 44 = .ok (.aload_n 0, 1) := by decide +kernel
theorem dX6_weigh_45 : decode cX6_weigh 45 = .ok (.getfield 47, 3) := by decide +kernel
theorem dX6_weigh_48 : decode cX6_weigh 48 = .ok (.iastore, 1) := by decide +kernel
theorem dX6_weigh_49 : decode cX6_weigh 49 = .ok (.aload_n 0, 1) := by decide +kernel
theorem dX6_weigh_50 : decode cX6_weigh 50 = .ok (.iload 4, 2) := by decide +kernel
theorem dX6_weigh_52 : decode cX6_weigh 52 = .ok (.invokevirtual 50, 3) := by decide +kernel
theorem dX6_weigh_55 : decode cX6_weigh 55 = .ok (.iinc 4 1, 3) := by decide +kernel
theorem dX6_weigh_58 : decode cX6_weigh 58 = .ok (.goto (-29), 3) := by decide +kernel
theorem dX6_weigh_61 : decode cX6_weigh 61 = .ok (.aload_n 0, 1) := by decide +kernel
theorem dX6_weigh_62 : decode cX6_weigh 62 = .ok (.getfield 31, 3) := by decide +kernel
theorem dX6_weigh_65 : decode cX6_weigh 65 = .ok (.aload_n 0, 1) := by decide +kernel
theorem dX6_weigh_66 : decode cX6_weigh 66 = .ok (.invokevirtual 43, 3) := by decide +kernel
theorem dX6_weigh_69 : decode cX6_weigh 69 = .ok (.iconst 1, 1) := by decide +kernel
theorem dX6_weigh_70 : decode cX6_weigh 70 = .ok (.iadd, 1) := by decide +kernel
theorem dX6_weigh_71 : decode cX6_weigh 71 = .ok (.aload_n 0, 1) := by decide +kernel
theorem dX6_weigh_72 : decode cX6_weigh 72 = .ok (.getfield 47, 3) := by decide +kernel
theorem dX6_weigh_75 : decode cX6_weigh 75 = .ok (.iastore, 1) := by decide +kernel
theorem dX6_weigh_76 : decode cX6_weigh 76 = .ok (.iconst 0, 1) := by decide +kernel
theorem dX6_weigh_77 : decode cX6_weigh 77 = .ok (.istore 4, 2) := by decide +kernel
theorem dX6_weigh_79 : decode cX6_weigh 79 = .ok (.iload 4, 2) := by decide +kernel
theorem dX6_weigh_81 : decode cX6_weigh 81 = .ok (.aload_n 0, 1) := by decide +kernel
theorem dX6_weigh_82 : decode cX6_weigh 82 = .ok (.getfield 9, 3) := by decide +kernel
theorem dX6_weigh_85 : decode cX6_weigh 85 = .ok (.if_icmp .ge 15, 3) := by decide +kernel
theorem dX6_weigh_88 : decode cX6_weigh 88 = .ok (.aload_n 0, 1) := by decide +kernel
theorem dX6_weigh_89 : decode cX6_weigh 89 = .ok (.iload 4, 2) := by decide +kernel
theorem dX6_weigh_91 : decode cX6_weigh 91 = .ok (.invokevirtual 53, 3) := by decide +kernel
theorem dX6_weigh_94 : decode cX6_weigh 94 = .ok (.iinc 4 1, 3) := by decide +kernel
theorem dX6_weigh_97 : decode cX6_weigh 97 = .ok (.goto (-18), 3) := by decide +kernel
theorem dX6_weigh_100 : decode cX6_weigh 100 = .ok (.return_, 1) := by decide +kernel
theorem dX6_mono_0 : decode cX6_mono 0 = .ok (.iload_n 1, 1) := by decide +kernel
theorem dX6_mono_1 : decode cX6_mono 1 = .ok (.aload_n 0, 1) := by decide +kernel
theorem dX6_mono_2 : decode cX6_mono 2 = .ok (.getfield 24, 3) := by decide +kernel
theorem dX6_mono_5 : decode cX6_mono 5 = .ok (.iconst 0, 1) := by decide +kernel
theorem dX6_mono_6 : decode cX6_mono 6 = .ok (.iaload, 1) := by decide +kernel
theorem dX6_mono_7 : decode cX6_mono 7 = .ok (.imul, 1) := by decide +kernel
theorem dX6_mono_8 : decode cX6_mono 8 = .ok (.iload_n 2, 1) := by decide +kernel
theorem dX6_mono_9 : decode cX6_mono 9 = .ok (.aload_n 0, 1) := by decide +kernel
theorem dX6_mono_10 : decode cX6_mono 10 = .ok (.getfield 24, 3) := by decide +kernel
theorem dX6_mono_13 : decode cX6_mono 13 = .ok (.iconst 1, 1) := by decide +kernel
theorem dX6_mono_14 : decode cX6_mono 14 = .ok (.iaload, 1) := by decide +kernel
theorem dX6_mono_15 : decode cX6_mono 15 = .ok (.imul, 1) := by decide +kernel
theorem dX6_mono_16 : decode cX6_mono 16 = .ok (.iadd, 1) := by decide +kernel
theorem dX6_mono_17 : decode cX6_mono 17 = .ok (.iload_n 3, 1) := by decide +kernel
theorem dX6_mono_18 : decode cX6_mono 18 = .ok (.aload_n 0, 1) := by decide +kernel
theorem dX6_mono_19 : decode cX6_mono 19 = .ok (.getfield 24, 3) := by decide +kernel
theorem dX6_mono_22 : decode cX6_mono 22 = .ok (.iconst 2, 1) := by decide +kernel
theorem dX6_mono_23 : decode cX6_mono 23 = .ok (.iaload, 1) := by decide +kernel
theorem dX6_mono_24 : decode cX6_mono 24 = .ok (.imul, 1) := by decide +kernel
theorem dX6_mono_25 : decode cX6_mono 25 = .ok (.iadd, 1) := by decide +kernel
theorem dX6_mono_26 : decode cX6_mono 26 = .ok (.iload_n 1, 1) := by decide +kernel
theorem dX6_mono_27 : decode cX6_mono 27 = .ok (.iload_n 2, 1) := by decide +kernel
theorem dX6_mono_28 : decode cX6_mono 28 = .ok (.iload_n 3, 1) := by decide +kernel
theorem dX6_mono_29 : decode cX6_mono 29 = .ok (.invokestatic 62, 3) := by decide +kernel
theorem dX6_mono_32 : decode cX6_mono 32 = .ok (.ireturn, 1) := by decide +kernel
theorem dX6_variable_0 : decode cX6_variable 0 = .ok (.aload_n 0, 1) := by decide +kernel
theorem dX6_variable_1 : decode cX6_variable 1 = .ok (.iload_n 1, 1) := by decide +kernel
theorem dX6_variable_2 : decode cX6_variable 2 = .ok (.ifCond .ne 7, 3) := by decide +kernel
theorem dX6_variable_5 : decode cX6_variable 5 = .ok (.iconst 1, 1) := by decide +kernel
theorem dX6_variable_6 : decode cX6_variable 6 = .ok (.goto 4, 3) := by decide +kernel
theorem dX6_variable_9 : decode cX6_variable 9 = .ok (.iconst 0, 1) := by decide +kernel
theorem dX6_variable_10 : decode cX6_variable 10 = .ok (.iload_n 1, 1) := by decide +kernel
theorem dX6_variable_11 : decode cX6_variable 11 = .ok (.iconst 1, 1) := by decide +kernel
theorem dX6_variable_12 : decode cX6_variable 12 = .ok (.if_icmp .ne 7, 3) := by decide +kernel
theorem dX6_variable_15 : decode cX6_variable 15 = .ok (.iconst 1, 1) := by decide +kernel
theorem dX6_variable_16 : decode cX6_variable 16 = .ok (.goto 4, 3) := by decide +kernel
theorem dX6_variable_19 : decode cX6_variable 19 = .ok (.iconst 0, 1) := by decide +kernel
theorem dX6_variable_20 : decode cX6_variable 20 = .ok (.iload_n 1, 1) := by decide +kernel
theorem dX6_variable_21 : decode cX6_variable 21 = .ok (.iconst 2, 1) := by decide +kernel
theorem dX6_variable_22 : decode cX6_variable 22 = .ok (.if_icmp .ne 7, 3) := by decide +kernel
theorem dX6_variable_25 : decode cX6_variable 25 = .ok (.iconst 1, 1) := by decide +kernel
theorem dX6_variable_26 : decode cX6_variable 26 = .ok (.goto 4, 3) := by decide +kernel
theorem dX6_variable_29 : decode cX6_variable 29 = .ok (.iconst 0, 1) := by decide +kernel
theorem dX6_variable_30 : decode cX6_variable 30 = .ok (.invokevirtual 68, 3) := by decide +kernel
theorem dX6_variable_33 : decode cX6_variable 33 = .ok (.ireturn, 1) := by decide +kernel
theorem dX6_column_0 : decode cX6_column 0 = .ok (.iconst 0, 1) := by decide +kernel
theorem dX6_column_1 : decode cX6_column 1 = .ok (.istore_n 2, 1) := by decide +kernel
theorem dX6_column_2 : decode cX6_column 2 = .ok (.aload_n 0, 1) := by decide +kernel
theorem dX6_column_3 : decode cX6_column 3 = .ok (.invokevirtual 72, 3) := by decide +kernel
theorem dX6_column_6 : decode cX6_column 6 = .ok (.bipush 120, 2) := by decide +kernel
theorem dX6_column_8 : decode cX6_column 8 = .ok (.invokestatic 75, 3) := by decide +kernel
theorem dX6_column_11 : decode cX6_column 11 = .ok (.istore_n 3, 1) := by decide +kernel
theorem dX6_column_12 : decode cX6_column 12 = .ok (.iload_n 2, 1) := by decide +kernel
theorem dX6_column_13 : decode cX6_column 13 = .ok (.iload_n 3, 1) := by decide +kernel
theorem dX6_column_14 : decode cX6_column 14 = .ok (.if_icmp .ge 35, 3) := by decide +kernel
theorem dX6_column_17 : decode cX6_column 17 = .ok (.iload_n 2, 1) := by decide +kernel
theorem dX6_column_18 : decode cX6_column 18 = .ok (.iload_n 3, 1) := by decide +kernel
theorem dX6_column_19 : decode cX6_column 19 = .ok (.iadd, 1) := by decide +kernel
theorem dX6_column_20 : decode cX6_column 20 = .ok (.iconst 1, 1) := by decide +kernel
theorem dX6_column_21 : decode cX6_column 21 = .ok (.iushr, 1) := by decide +kernel
theorem dX6_column_22 : decode cX6_column 22 = .ok (.istore 4, 2) := by decide +kernel
theorem dX6_column_24 : decode cX6_column 24 = .ok (.aload_n 0, 1) := by decide +kernel
theorem dX6_column_25 : decode cX6_column 25 = .ok (.getfield 28, 3) := by decide +kernel
theorem dX6_column_28 : decode cX6_column 28 = .ok (.iload 4, 2) := by decide +kernel
theorem dX6_column_30 : decode cX6_column 30 = .ok (.iaload, 1) := by decide +kernel
theorem dX6_column_31 : decode cX6_column 31 = .ok (.iload_n 1, 1) := by decide +kernel
theorem dX6_column_32 : decode cX6_column 32 = .ok (.if_icmp .ge 11, 3) := by decide +kernel
theorem dX6_column_35 : decode cX6_column 35 = .ok (.iload 4, 2) := by decide +kernel
theorem dX6_column_37 : decode cX6_column 37 = .ok (.iconst 1, 1) := by decide +kernel
theorem dX6_column_38 : decode cX6_column 38 = .ok (.iadd, 1) := by decide +kernel
theorem dX6_column_39 : decode cX6_column 39 = .ok (.istore_n 2, 1) := by decide +kernel
theorem dX6_column_40 : decode cX6_column 40 = .ok (.goto 6, 3) := by decide +kernel
theorem dX6_column_43 : decode cX6_column 43 = .ok (.iload 4, 2) := by decide +kernel
theorem dX6_column_45 : decode cX6_column 45 = .ok (.istore_n 3, 1) := by decide +kernel
theorem dX6_column_46 : decode cX6_column 46 = .ok (.goto (-34), 3) := by decide +kernel
theorem dX6_column_49 : decode cX6_column 49 = .ok (.iload_n 2, 1) := by decide +kernel
theorem dX6_column_50 : decode cX6_column 50 = .ok (.aload_n 0, 1) := by decide +kernel
theorem dX6_column_51 : decode cX6_column 51 = .ok (.invokevirtual 72, 3) := by decide +kernel
theorem dX6_column_54 : decode cX6_column 54 = .ok (.if_icmp .ge 17, 3) := by decide +kernel
theorem dX6_column_57 : decode cX6_column 57 = .ok (.aload_n 0, 1) := by decide +kernel
theorem dX6_column_58 : decode cX6_column 58 = .ok (.getfield 28, 3) := by decide +kernel
theorem dX6_column_61 : decode cX6_column 61 = .ok (.iload_n 2, 1) := by decide +kernel
theorem dX6_column_62 : decode cX6_column 62 = .ok (.iaload, 1) := by decide +kernel
theorem dX6_column_63 : decode cX6_column 63 = .ok (.iload_n 1, 1) := by decide +kernel
theorem dX6_column_64 : decode cX6_column 64 = .ok (.if_icmp .ne 7, 3) := by decide +kernel
theorem dX6_column_67 : decode cX6_column 67 = .ok (.iload_n 2, 1) := by decide +kernel
theorem dX6_column_68 : decode cX6_column 68 = .ok (.goto 4, 3) := by decide +kernel
theorem dX6_column_71 : decode cX6_column 71 = .ok (.iconst (-1), 1) := by decide +kernel
theorem dX6_column_72 : decode cX6_column 72 = .ok (.ireturn, 1) := by decide +kernel
theorem dX6_listDegree_0 : decode cX6_listDegree 0 = .ok (.iload_n 1, 1) := by decide +kernel
theorem dX6_listDegree_1 : decode cX6_listDegree 1 = .ok (.istore_n 2, 1) := by decide +kernel
theorem dX6_listDegree_2 : decode cX6_listDegree 2 = .ok (.iload_n 2, 1) := by decide +kernel
theorem dX6_listDegree_3 : decode cX6_listDegree 3 = .ok (.ifCond .lt 109, 3) := by decide +kernel
theorem dX6_listDegree_6 : decode cX6_listDegree 6 = .ok (.aload_n 0, 1) := by decide +kernel
theorem dX6_listDegree_7 : decode cX6_listDegree 7 = .ok (.getfield 9, 3) := by decide +kernel
theorem dX6_listDegree_10 : decode cX6_listDegree 10 = .ok (.iconst 1, 1) := by decide +kernel
theorem dX6_listDegree_11 : decode cX6_listDegree 11 = .ok (.if_icmp .le 7, 3) := by decide +kernel
theorem dX6_listDegree_14 : decode cX6_listDegree 14 = .ok (.iload_n 1, 1) := by decide +kernel
theorem dX6_listDegree_15 : decode cX6_listDegree 15 = .ok (.goto 4, 3) := by decide +kernel
theorem dX6_listDegree_18 : decode cX6_listDegree 18 = .ok (.iconst 0, 1) := by decide +kernel
theorem dX6_listDegree_19 : decode cX6_listDegree 19 = .ok (.istore_n 3, 1) := by decide +kernel
theorem dX6_listDegree_20 : decode cX6_listDegree 20 = .ok (.iload_n 3, 1) := by decide +kernel
theorem dX6_listDegree_21 : decode cX6_listDegree 21 = .ok (.ifCond .lt 85, 3) := by decide +kernel
theorem dX6_listDegree_24 : decode cX6_listDegree 24 = .ok (.aload_n 0, 1) := by decide +kernel
theorem dX6_listDegree_25 : decode cX6_listDegree 25 = .ok (.getfield 9, 3) := by decide +kernel
theorem dX6_listDegree_28 : decode cX6_listDegree 28 = .ok (.iconst 2, 1) := by decide +kernel
theorem dX6_listDegree_29 : decode cX6_listDegree 29 = .ok (.if_icmp .le 7, 3) := by decide +kernel
theorem dX6_listDegree_32 : decode cX6_listDegree 32 = .ok (.iload_n 1, 1) := by decide +kernel
theorem dX6_listDegree_33 : decode cX6_listDegree 33 = .ok (.goto 4, 3) := by decide +kernel
theorem dX6_listDegree_36 : decode cX6_listDegree 36 = .ok (.iconst 0, 1) := by decide +kernel
theorem dX6_listDegree_37 : decode cX6_listDegree 37 = .ok (.istore 4, 2) := by decide +kernel
theorem dX6_listDegree_39 : decode cX6_listDegree 39 = .ok (.iload 4, 2) := by decide +kernel
theorem dX6_listDegree_41 : decode cX6_listDegree 41 = .ok (.ifCond .lt 59, 3) := by decide +kernel
theorem dX6_listDegree_44 : decode cX6_listDegree 44 = .ok (.aload_n 0, 1) := by decide +kernel
theorem dX6_listDegree_45 : decode cX6_listDegree 45 = .ok (.iload_n 2, 1) := by decide +kernel
theorem dX6_listDegree_46 : decode cX6_listDegree 46 = .ok (.iload_n 3, 1) := by decide +kernel
theorem dX6_listDegree_47 : decode cX6_listDegree 47 = .ok (.iload 4, 2) := by decide +kernel
theorem dX6_listDegree_49 : decode cX6_listDegree 49 = .ok (.invokevirtual 68, 3) := by decide +kernel
theorem dX6_listDegree_52 : decode cX6_listDegree 52 = .ok (.istore 5, 2) := by decide +kernel
theorem dX6_listDegree_54 : decode cX6_listDegree 54 = .ok (.iload 5, 2) := by decide +kernel
theorem dX6_listDegree_56 : decode cX6_listDegree 56 = .ok (.invokestatic 78, 3) := by decide +kernel
theorem dX6_listDegree_59 : decode cX6_listDegree 59 = .ok (.iload_n 1, 1) := by decide +kernel
theorem dX6_listDegree_60 : decode cX6_listDegree 60 = .ok (.if_icmp .ne 34, 3) := by decide +kernel
theorem dX6_listDegree_63 : decode cX6_listDegree 63 = .ok (.aload_n 0, 1) := by decide +kernel
theorem dX6_listDegree_64 : decode cX6_listDegree 64 = .ok (.getfield 47, 3) := by decide +kernel
theorem dX6_listDegree_67 : decode cX6_listDegree 67 = .ok (.sipush 165, 3) := by decide +kernel
theorem dX6_listDegree_70 : decode cX6_listDegree 70 = .ok (.if_icmp .ge 24, 3) := by decide +kernel
theorem dX6_listDegree_73 : decode cX6_listDegree 73 = .ok (.aload_n 0, 1) := by decide +kernel
theorem dX6_listDegree_74 : decode cX6_listDegree 74 = .ok (.getfield 28, 3) := by decide +kernel
theorem dX6_listDegree_77 : decode cX6_listDegree 77 = .ok (.aload_n 0, 1) := by decide +kernel
theorem dX6_listDegree_78 : decode cX6_listDegree 78 = .ok (.getfield 47, 3) := by decide +kernel
theorem dX6_listDegree_81 : decode cX6_listDegree 81 = .ok (.iload 5, 2) := by decide +kernel
theorem dX6_listDegree_83 : decode cX6_listDegree 83 = .ok (.iastore, 1) := by decide +kernel
theorem dX6_listDegree_84 : decode cX6_listDegree 84 = .ok (.aload_n 0, 1) := by decide +kernel
theorem dX6_listDegree_85 : decode cX6_listDegree 85 = .ok (.dup, 1) := by decide +kernel
theorem dX6_listDegree_86 : decode cX6_listDegree 86 = .ok (.getfield 47, 3) := by decide +kernel
theorem dX6_listDegree_89 : decode cX6_listDegree 89 = .ok (.iconst 1, 1) := by decide +kernel
theorem dX6_listDegree_90 : decode cX6_listDegree 90 = .ok (.iadd, 1) := by decide +kernel
theorem dX6_listDegree_91 : decode cX6_listDegree 91 = .ok (.putfield 47, 3) := by decide +kernel
theorem dX6_listDegree_94 : decode cX6_listDegree 94 = .ok (.iinc 4 (-1), 3) := by decide +kernel
theorem dX6_listDegree_97 : decode cX6_listDegree 97 = .ok (.goto (-58), 3) := by decide +kernel
theorem dX6_listDegree_100 : decode cX6_listDegree 100 = .ok (.iinc 3 (-1), 3) := by decide +kernel
theorem dX6_listDegree_103 : decode cX6_listDegree 103 = .ok (.goto (-83), 3) := by decide +kernel
theorem dX6_listDegree_106 : decode cX6_listDegree 106 = .ok (.iinc 2 (-1), 3) := by decide +kernel
theorem dX6_listDegree_109 : decode cX6_listDegree 109 = .ok (.goto (-107), 3) := by decide +kernel
theorem dX6_listDegree_112 : decode cX6_listDegree 112 = .ok (.return_, 1) := by decide +kernel
theorem dX6_linkProducts_0 : decode cX6_linkProducts 0 = .ok (.iconst 0, 1) := by decide +kernel
theorem dX6_linkProducts_1 : decode cX6_linkProducts 1 = .ok (.istore_n 2, 1) := by decide +kernel
theorem dX6_linkProducts_2 : decode cX6_linkProducts 2 = .ok (.iload_n 2, 1) := by decide +kernel
theorem dX6_linkProducts_3 : decode cX6_linkProducts 3 = .ok (.aload_n 0, 1) := by decide +kernel
theorem dX6_linkProducts_4 : decode cX6_linkProducts 4 = .ok (.invokevirtual 72, 3) := by decide +kernel
theorem dX6_linkProducts_7 : decode cX6_linkProducts 7 = .ok (.if_icmp .ge 41, 3) := by decide +kernel
theorem dX6_linkProducts_10 : decode cX6_linkProducts 10 = .ok (.iload_n 2, 1) := by decide +kernel
theorem dX6_linkProducts_11 : decode cX6_linkProducts 11 = .ok (.bipush 120, 2) := by decide +kernel
theorem dX6_linkProducts_13 : decode cX6_linkProducts 13 = .ok (.if_icmp .ge 35, 3) := by decide +kernel
theorem dX6_linkProducts_16 : decode cX6_linkProducts 16 = .ok (.aload_n 0, 1) := by decide +kernel
theorem dX6_linkProducts_17 : decode cX6_linkProducts 17 = .ok (.getfield 36, 3) := by decide +kernel
theorem dX6_linkProducts_20 : decode cX6_linkProducts 20 = .ok (.iload_n 1, 1) := by decide +kernel
theorem dX6_linkProducts_21 : decode cX6_linkProducts 21 = .ok (.aaload, 1) := by decide +kernel
theorem dX6_linkProducts_22 : decode cX6_linkProducts 22 = .ok (.iload_n 2, 1) := by decide +kernel
theorem dX6_linkProducts_23 : decode cX6_linkProducts 23 = .ok (.aload_n 0, 1) := by decide +kernel
theorem dX6_linkProducts_24 : decode cX6_linkProducts 24 = .ok (.aload_n 0, 1) := by decide +kernel
theorem dX6_linkProducts_25 : decode cX6_linkProducts 25 = .ok (.getfield 28, 3) := by decide +kernel
theorem dX6_linkProducts_28 : decode cX6_linkProducts 28 = .ok (.iload_n 2, 1) := by decide +kernel
theorem dX6_linkProducts_29 : decode cX6_linkProducts 29 = .ok (.iaload, 1) := by decide +kernel
theorem dX6_linkProducts_30 : decode cX6_linkProducts 30 = .ok (.aload_n 0, 1) := by decide +kernel
theorem dX6_linkProducts_31 : decode cX6_linkProducts 31 = .ok (.iload_n 1, 1) := by decide +kernel
theorem dX6_linkProducts_32 : decode cX6_linkProducts 32 = .ok (.invokevirtual 82, 3) := by decide +kernel
theorem dX6_linkProducts_35 : decode cX6_linkProducts 35 = .ok (.invokestatic 85, 3) := by decide +kernel
theorem dX6_linkProducts_38 : decode cX6_linkProducts 38 = .ok (.invokevirtual 88, 3) := by decide +kernel
theorem dX6_linkProducts_41 : decode cX6_linkProducts 41 = .ok (.iastore, 1) := by decide +kernel
theorem dX6_linkProducts_42 : decode cX6_linkProducts 42 = .ok (.iinc 2 1, 3) := by decide +kernel
theorem dX6_linkProducts_45 : decode cX6_linkProducts 45 = .ok (.goto (-43), 3) := by decide +kernel
theorem dX6_linkProducts_48 : decode cX6_linkProducts 48 = .ok (.return_, 1) := by decide +kernel
