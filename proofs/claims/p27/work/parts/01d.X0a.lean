theorem dX0_init_0 : decode cX0_init 0 = .ok (.aload_n 0, 1) := by decide +kernel
theorem dX0_init_1 : decode cX0_init 1 = .ok (.invokespecial 3, 3) := by decide +kernel
theorem dX0_init_4 : decode cX0_init 4 = .ok (.aload_n 0, 1) := by decide +kernel
theorem dX0_init_5 : decode cX0_init 5 = .ok (.bipush 20, 2) := by decide +kernel
theorem dX0_init_7 : decode cX0_init 7 = .ok (.anewarray 9, 3) := by decide +kernel
theorem dX0_init_10 : decode cX0_init 10 = .ok (.putfield 11, 3) := by decide +kernel
theorem dX0_init_13 : decode cX0_init 13 = .ok (.aload_n 0, 1) := by decide +kernel
theorem dX0_init_14 : decode cX0_init 14 = .ok (.bipush 40, 2) := by decide +kernel
theorem dX0_init_16 : decode cX0_init 16 = .ok (.iconst 5, 1) := by decide +kernel
theorem dX0_init_17 : decode cX0_init 17 = .ok (.multianewarray 17 2, 4) := by decide +kernel
theorem dX0_init_21 : decode cX0_init 21 = .ok (.putfield 19, 3) := by decide +kernel
theorem dX0_init_24 : decode cX0_init 24 = .ok (.aload_n 0, 1) := by decide +kernel
theorem dX0_init_25 : decode cX0_init 25 = .ok (.new 9, 3) := by decide +kernel
theorem dX0_init_28 : decode cX0_init 28 = .ok (.dup, 1) := by decide +kernel
theorem dX0_init_29 : decode cX0_init 29 = .ok (.invokespecial 22, 3) := by decide +kernel
theorem dX0_init_32 : decode cX0_init 32 = .ok (.putfield 23, 3) := by decide +kernel
theorem dX0_init_35 : decode cX0_init 35 = .ok (.aload_n 0, 1) := by decide +kernel
theorem dX0_init_36 : decode cX0_init 36 = .ok (.new 9, 3) := by decide +kernel
theorem dX0_init_39 : decode cX0_init 39 = .ok (.dup, 1) := by decide +kernel
theorem dX0_init_40 : decode cX0_init 40 = .ok (.invokespecial 22, 3) := by decide +kernel
theorem dX0_init_43 : decode cX0_init 43 = .ok (.putfield 27, 3) := by decide +kernel
theorem dX0_init_46 : decode cX0_init 46 = .ok (.iconst 0, 1) := by decide +kernel
theorem dX0_init_47 : decode cX0_init 47 = .ok (.istore_n 1, 1) := by decide +kernel
theorem dX0_init_48 : decode cX0_init 48 = .ok (.iload_n 1, 1) := by decide +kernel
theorem dX0_init_49 : decode cX0_init 49 = .ok (.bipush 20, 2) := by decide +kernel
theorem dX0_init_51 : decode cX0_init 51 = .ok (.if_icmp .ge 22, 3) := by decide +kernel
theorem dX0_init_54 : decode cX0_init 54 = .ok (.aload_n 0, 1) := by decide +kernel
theorem dX0_init_55 : decode cX0_init 55 = .ok (.getfield 11, 3) := by decide +kernel
theorem dX0_init_58 : decode cX0_init 58 = .ok (.iload_n 1, 1) := by decide +kernel
theorem dX0_init_59 : decode cX0_init 59 = .ok (.new 9, 3) := by decide +kernel
theorem dX0_init_62 : decode cX0_init 62 = .ok (.dup, 1) := by decide +kernel
theorem dX0_init_63 : decode cX0_init 63 = .ok (.invokespecial 22, 3) := by decide +kernel
theorem dX0_init_66 : decode cX0_init 66 = .ok (.aastore, 1) := by decide +kernel
theorem dX0_init_67 : decode cX0_init 67 = .ok (.iinc 1 1, 3) := by decide +kernel
theorem dX0_init_70 : decode cX0_init 70 = .ok (.goto (-22), 3) := by decide +kernel
theorem dX0_init_73 : decode cX0_init 73 = .ok (.return_, 1) := by decide +kernel
theorem dX0_divide_0 : decode cX0_divide 0 = .ok (.aload_n 0, 1) := by decide +kernel
theorem dX0_divide_1 : decode cX0_divide 1 = .ok (.aload_n 1, 1) := by decide +kernel
theorem dX0_divide_2 : decode cX0_divide 2 = .ok (.iload_n 2, 1) := by decide +kernel
theorem dX0_divide_3 : decode cX0_divide 3 = .ok (.iload_n 3, 1) := by decide +kernel
theorem dX0_divide_4 : decode cX0_divide 4 = .ok (.aload 4, 2) := by decide +kernel
theorem dX0_divide_6 : decode cX0_divide 6 = .ok (.invokevirtual 30, 3) := by decide +kernel
theorem dX0_divide_9 : decode cX0_divide 9 = .ok (.aload_n 0, 1) := by decide +kernel
theorem dX0_divide_10 : decode cX0_divide 10 = .ok (.invokevirtual 34, 3) := by decide +kernel
theorem dX0_divide_13 : decode cX0_divide 13 = .ok (.istore 5, 2) := by decide +kernel
theorem dX0_divide_15 : decode cX0_divide 15 = .ok (.iconst 0, 1) := by decide +kernel
theorem dX0_divide_16 : decode cX0_divide 16 = .ok (.istore 6, 2) := by decide +kernel
theorem dX0_divide_18 : decode cX0_divide 18 = .ok (.iload 6, 2) := by decide +kernel
theorem dX0_divide_20 : decode cX0_divide 20 = .ok (.bipush 40, 2) := by decide +kernel
theorem dX0_divide_22 : decode cX0_divide 22 = .ok (.if_icmp .ge 32, 3) := by decide +kernel
theorem dX0_divide_25 : decode cX0_divide 25 = .ok (.iload 5, 2) := by decide +kernel
theorem dX0_divide_27 : decode cX0_divide 27 = .ok (.iconst (-1), 1) := by decide +kernel
theorem dX0_divide_28 : decode cX0_divide 28 = .ok (.if_icmp .eq 26, 3) := by decide +kernel
theorem dX0_divide_31 : decode cX0_divide 31 = .ok (.aload_n 0, 1) := by decide +kernel
theorem dX0_divide_32 : decode cX0_divide 32 = .ok (.iload 5, 2) := by decide +kernel
theorem dX0_divide_34 : decode cX0_divide 34 = .ok (.aload 4, 2) := by decide +kernel
theorem dX0_divide_36 : decode cX0_divide 36 = .ok (.invokevirtual 38, 3) := by decide +kernel
theorem dX0_divide_39 : decode cX0_divide 39 = .ok (.ifCond .eq 15, 3) := by decide +kernel
theorem dX0_divide_42 : decode cX0_divide 42 = .ok (.aload_n 0, 1) := by decide +kernel
theorem dX0_divide_43 : decode cX0_divide 43 = .ok (.invokevirtual 34, 3) := by decide +kernel
theorem dX0_divide_46 : decode cX0_divide 46 = .ok (.istore 5, 2) := by decide +kernel
theorem dX0_divide_48 : decode cX0_divide 48 = .ok (.iinc 6 1, 3) := by decide +kernel
theorem dX0_divide_51 : decode cX0_divide 51 = .ok (.goto (-33), 3) := by decide +kernel
theorem dX0_divide_54 : decode cX0_divide 54 = .ok (.aload_n 0, 1) := by decide +kernel
theorem dX0_divide_55 : decode cX0_divide 55 = .ok (.iload 5, 2) := by decide +kernel
theorem dX0_divide_57 : decode cX0_divide 57 = .ok (.iconst (-1), 1) := by decide +kernel
theorem dX0_divide_58 : decode cX0_divide 58 = .ok (.if_icmp .ne 7, 3) := by decide +kernel
theorem dX0_divide_61 : decode cX0_divide 61 = .ok (.iconst 1, 1) := by decide +kernel
theorem dX0_divide_62 : decode cX0_divide 62 = .ok (.goto 4, 3) := by decide +kernel
theorem dX0_divide_65 : decode cX0_divide 65 = .ok (.iconst 0, 1) := by decide +kernel
theorem dX0_divide_66 : decode cX0_divide 66 = .ok (.putfield 42, 3) := by decide +kernel
theorem dX0_divide_69 : decode cX0_divide 69 = .ok (.aload_n 0, 1) := by decide +kernel
theorem dX0_divide_70 : decode cX0_divide 70 = .ok (.getfield 42, 3) := by decide +kernel
theorem dX0_divide_73 : decode cX0_divide 73 = .ok (.ifCond .eq 10, 3) := by decide +kernel
theorem dX0_divide_76 : decode cX0_divide 76 = .ok (.aload_n 0, 1) := by decide +kernel
theorem dX0_divide_77 : decode cX0_divide 77 = .ok (.getfield 46, 3) := by decide +kernel
theorem dX0_divide_80 : decode cX0_divide 80 = .ok (.goto 5, 3) := by decide +kernel
theorem dX0_divide_83 : decode cX0_divide 83 = .ok (.bipush (-2), 2) := by decide +kernel
theorem dX0_divide_85 : decode cX0_divide 85 = .ok (.ireturn, 1) := by decide +kernel
theorem dX0_keptOne_0 : decode cX0_keptOne 0 = .ok (.aload_n 0, 1) := by decide +kernel
theorem dX0_keptOne_1 : decode cX0_keptOne 1 = .ok (.getfield 42, 3) := by decide +kernel
theorem dX0_keptOne_4 : decode cX0_keptOne 4 = .ok (.ifCond .eq 13, 3) := by decide +kernel
theorem dX0_keptOne_7 : decode cX0_keptOne 7 = .ok (.iload_n 1, 1) := by decide +kernel
theorem dX0_keptOne_8 : decode cX0_keptOne 8 = .ok (.ifCond .lt 9, 3) := by decide +kernel
theorem dX0_keptOne_11 : decode cX0_keptOne 11 = .ok (.iload_n 1, 1) := by decide +kernel
theorem dX0_keptOne_12 : decode cX0_keptOne 12 = .ok (.bipush 10, 2) := by decide +kernel
theorem dX0_keptOne_14 : decode cX0_keptOne 14 = .ok (.if_icmp .lt 5, 3) := by decide +kernel
theorem dX0_keptOne_17 : decode cX0_keptOne 17 = .ok (.aconst_null, 1) := by decide +kernel
theorem dX0_keptOne_18 : decode cX0_keptOne 18 = .ok (.areturn, 1) := by decide +kernel
theorem dX0_keptOne_19 : decode cX0_keptOne 19 = .ok (.iload_n 1, 1) := by decide +kernel
theorem dX0_keptOne_20 : decode cX0_keptOne 20 = .ok (.iconst 2, 1) := by decide +kernel
theorem dX0_keptOne_21 : decode cX0_keptOne 21 = .ok (.if_icmp .ge 25, 3) := by decide +kernel
theorem dX0_keptOne_24 : decode cX0_keptOne 24 = .ok (.iload_n 1, 1) := by decide +kernel
theorem dX0_keptOne_25 : decode cX0_keptOne 25 = .ok (.ifCond .ne 13, 3) := by decide +kernel
theorem dX0_keptOne_28 : decode cX0_keptOne 28 = .ok (.aload_n 0, 1) := by decide +kernel
theorem dX0_keptOne_29 : decode cX0_keptOne 29 = .ok (.getfield 23, 3) := by decide +kernel
theorem dX0_keptOne_32 : decode cX0_keptOne 32 = .ok (.getfield 50, 3) := by decide +kernel
theorem dX0_keptOne_35 : decode cX0_keptOne 35 = .ok (.goto 10, 3) := by decide +kernel
theorem dX0_keptOne_38 : decode cX0_keptOne 38 = .ok (.aload_n 0, 1) := by decide +kernel
theorem dX0_keptOne_39 : decode cX0_keptOne 39 = .ok (.getfield 23, 3) := by decide +kernel
theorem dX0_keptOne_42 : decode cX0_keptOne 42 = .ok (.getfield 54, 3) := by decide +kernel
theorem dX0_keptOne_45 : decode cX0_keptOne 45 = .ok (.areturn, 1) := by decide +kernel
theorem dX0_keptOne_46 : decode cX0_keptOne 46 = .ok (.aload_n 0, 1) := by decide +kernel
theorem dX0_keptOne_47 : decode cX0_keptOne 47 = .ok (.getfield 57, 3) := by decide +kernel
theorem dX0_keptOne_50 : decode cX0_keptOne 50 = .ok (.iload_n 1, 1) := by decide +kernel
theorem dX0_keptOne_51 : decode cX0_keptOne 51 = .ok (.iconst 2, 1) := by decide +kernel
theorem dX0_keptOne_52 : decode cX0_keptOne 52 = .ok (.isub, 1) := by decide +kernel
theorem dX0_keptOne_53 : decode cX0_keptOne 53 = .ok (.ishr, 1) := by decide +kernel
theorem dX0_keptOne_54 : decode cX0_keptOne 54 = .ok (.iconst 1, 1) := by decide +kernel
theorem dX0_keptOne_55 : decode cX0_keptOne 55 = .ok (.iand, 1) := by decide +kernel
theorem dX0_keptOne_56 : decode cX0_keptOne 56 = .ok (.iconst 1, 1) := by decide +kernel
theorem dX0_keptOne_57 : decode cX0_keptOne 57 = .ok (.if_icmp .ne 17, 3) := by decide +kernel
theorem dX0_keptOne_60 : decode cX0_keptOne 60 = .ok (.aload_n 0, 1) := by decide +kernel
theorem dX0_keptOne_61 : decode cX0_keptOne 61 = .ok (.getfield 23, 3) := by decide +kernel
theorem dX0_keptOne_64 : decode cX0_keptOne 64 = .ok (.getfield 60, 3) := by decide +kernel
theorem dX0_keptOne_67 : decode cX0_keptOne 67 = .ok (.iload_n 1, 1) := by decide +kernel
theorem dX0_keptOne_68 : decode cX0_keptOne 68 = .ok (.iconst 2, 1) := by decide +kernel
theorem dX0_keptOne_69 : decode cX0_keptOne 69 = .ok (.isub, 1) := by decide +kernel
theorem dX0_keptOne_70 : decode cX0_keptOne 70 = .ok (.aaload, 1) := by decide +kernel
theorem dX0_keptOne_71 : decode cX0_keptOne 71 = .ok (.goto 4, 3) := by decide +kernel
theorem dX0_keptOne_74 : decode cX0_keptOne 74 = .ok (.aconst_null, 1) := by decide +kernel
theorem dX0_keptOne_75 : decode cX0_keptOne 75 = .ok (.areturn, 1) := by decide +kernel
theorem dX0_tellStep_0 : decode cX0_tellStep 0 = .ok (.iload_n 1, 1) := by decide +kernel
theorem dX0_tellStep_1 : decode cX0_tellStep 1 = .ok (.ifCond .lt 26, 3) := by decide +kernel
theorem dX0_tellStep_4 : decode cX0_tellStep 4 = .ok (.iload_n 1, 1) := by decide +kernel
theorem dX0_tellStep_5 : decode cX0_tellStep 5 = .ok (.aload_n 0, 1) := by decide +kernel
theorem dX0_tellStep_6 : decode cX0_tellStep 6 = .ok (.getfield 46, 3) := by decide +kernel
theorem dX0_tellStep_9 : decode cX0_tellStep 9 = .ok (.if_icmp .ge 18, 3) := by decide +kernel
theorem dX0_tellStep_12 : decode cX0_tellStep 12 = .ok (.iload_n 1, 1) := by decide +kernel
theorem dX0_tellStep_13 : decode cX0_tellStep 13 = .ok (.bipush 40, 2) := by decide +kernel
theorem dX0_tellStep_15 : decode cX0_tellStep 15 = .ok (.if_icmp .ge 12, 3) := by decide +kernel
theorem dX0_tellStep_18 : decode cX0_tellStep 18 = .ok (.iload_n 2, 1) := by decide +kernel
theorem dX0_tellStep_19 : decode cX0_tellStep 19 = .ok (.ifCond .lt 8, 3) := by decide +kernel
theorem dX0_tellStep_22 : decode cX0_tellStep 22 = .ok (.iload_n 2, 1) := by decide +kernel
theorem dX0_tellStep_23 : decode cX0_tellStep 23 = .ok (.iconst 5, 1) := by decide +kernel
theorem dX0_tellStep_24 : decode cX0_tellStep 24 = .ok (.if_icmp .lt 5, 3) := by decide +kernel
theorem dX0_tellStep_27 : decode cX0_tellStep 27 = .ok (.iconst (-1), 1) := by decide +kernel
theorem dX0_tellStep_28 : decode cX0_tellStep 28 = .ok (.ireturn, 1) := by decide +kernel
theorem dX0_tellStep_29 : decode cX0_tellStep 29 = .ok (.aload_n 0, 1) := by decide +kernel
theorem dX0_tellStep_30 : decode cX0_tellStep 30 = .ok (.getfield 19, 3) := by decide +kernel
theorem dX0_tellStep_33 : decode cX0_tellStep 33 = .ok (.iload_n 1, 1) := by decide +kernel
theorem dX0_tellStep_34 : decode cX0_tellStep 34 = .ok (.aaload, 1) := by decide +kernel
theorem dX0_tellStep_35 : decode cX0_tellStep 35 = .ok (.iload_n 2, 1) := by decide +kernel
theorem dX0_tellStep_36 : decode cX0_tellStep 36 = .ok (.iaload, 1) := by decide +kernel
theorem dX0_tellStep_37 : decode cX0_tellStep 37 = .ok (.ireturn, 1) := by decide +kernel
theorem dX0_tellWhole_0 : decode cX0_tellWhole 0 = .ok (.iload_n 1, 1) := by decide +kernel
theorem dX0_tellWhole_1 : decode cX0_tellWhole 1 = .ok (.ifCond .ne 8, 3) := by decide +kernel
theorem dX0_tellWhole_4 : decode cX0_tellWhole 4 = .ok (.aload_n 0, 1) := by decide +kernel
theorem dX0_tellWhole_5 : decode cX0_tellWhole 5 = .ok (.getfield 46, 3) := by decide +kernel
theorem dX0_tellWhole_8 : decode cX0_tellWhole 8 = .ok (.ireturn, 1) := by decide +kernel
theorem dX0_tellWhole_9 : decode cX0_tellWhole 9 = .ok (.iload_n 1, 1) := by decide +kernel
theorem dX0_tellWhole_10 : decode cX0_tellWhole 10 = .ok (.iconst 1, 1) := by decide +kernel
theorem dX0_tellWhole_11 : decode cX0_tellWhole 11 = .ok (.if_icmp .ne 8, 3) := by decide +kernel
theorem dX0_tellWhole_14 : decode cX0_tellWhole 14 = .ok (.aload_n 0, 1) := by decide +kernel
theorem dX0_tellWhole_15 : decode cX0_tellWhole 15 = .ok (.getfield 64, 3) := by decide +kernel
theorem dX0_tellWhole_18 : decode cX0_tellWhole 18 = .ok (.ireturn, 1) := by decide +kernel
theorem dX0_tellWhole_19 : decode cX0_tellWhole 19 = .ok (.iload_n 1, 1) := by decide +kernel
theorem dX0_tellWhole_20 : decode cX0_tellWhole 20 = .ok (.iconst 2, 1) := by decide +kernel
theorem dX0_tellWhole_21 : decode cX0_tellWhole 21 = .ok (.if_icmp .ne 7, 3) := by decide +kernel
theorem dX0_tellWhole_24 : decode cX0_tellWhole 24 = .ok (.iconst 1, 1) := by decide +kernel
theorem dX0_tellWhole_25 : decode cX0_tellWhole 25 = .ok (.goto 4, 3) := by decide +kernel
theorem dX0_tellWhole_28 : decode cX0_tellWhole 28 = .ok (.iconst (-1), 1) := by decide +kernel
theorem dX0_tellWhole_29 : decode cX0_tellWhole 29 = .ok (.ireturn, 1) := by decide +kernel
theorem dX0_begin_0 : decode cX0_begin 0 = .ok (.aload_n 0, 1) := by decide +kernel
theorem dX0_begin_1 : decode cX0_begin 1 = .ok (.iload_n 3, 1) := by decide +kernel
theorem dX0_begin_2 : decode cX0_begin 2 = .ok (.putfield 57, 3) := by decide +kernel
theorem dX0_begin_5 : decode cX0_begin 5 = .ok (.aload_n 0, 1) := by decide +kernel
theorem dX0_begin_6 : decode cX0_begin 6 = .ok (.iload_n 2, 1) := by decide +kernel
theorem dX0_begin_7 : decode cX0_begin 7 = .ok (.putfield 67, 3) := by decide +kernel
theorem dX0_begin_10 : decode cX0_begin 10 = .ok (.aload_n 0, 1) := by decide +kernel
theorem dX0_begin_11 : decode cX0_begin 11 = .ok (.iconst 0, 1) := by decide +kernel
theorem dX0_begin_12 : decode cX0_begin 12 = .ok (.putfield 46, 3) := by decide +kernel
theorem dX0_begin_15 : decode cX0_begin 15 = .ok (.aload_n 0, 1) := by decide +kernel
theorem dX0_begin_16 : decode cX0_begin 16 = .ok (.iconst 0, 1) := by decide +kernel
theorem dX0_begin_17 : decode cX0_begin 17 = .ok (.putfield 64, 3) := by decide +kernel
theorem dX0_begin_20 : decode cX0_begin 20 = .ok (.iconst 0, 1) := by decide +kernel
theorem dX0_begin_21 : decode cX0_begin 21 = .ok (.istore 5, 2) := by decide +kernel
theorem dX0_begin_23 : decode cX0_begin 23 = .ok (.iload 5, 2) := by decide +kernel
theorem dX0_begin_25 : decode cX0_begin 25 = .ok (.bipush 8, 2) := by decide +kernel
theorem dX0_begin_27 : decode cX0_begin 27 = .ok (.if_icmp .ge 76, 3) := by decide +kernel
theorem dX0_begin_30 : decode cX0_begin 30 = .ok (.iload 5, 2) := by decide +kernel
theorem dX0_begin_32 : decode cX0_begin 32 = .ok (.aload_n 1, 1) := by decide +kernel
theorem dX0_begin_33 : decode cX0_begin 33 = .ok (.arraylength, 1) := by decide +kernel
theorem dX0_begin_34 : decode cX0_begin 34 = .ok (.if_icmp .ge 69, 3) := by decide +kernel
theorem dX0_begin_37 : decode cX0_begin 37 = .ok (.iload_n 3, 1) := by decide +kernel
theorem dX0_begin_38 : decode cX0_begin 38 = .ok (.iload 5, 2) := by decide +kernel
theorem dX0_begin_40 : decode cX0_begin 40 = .ok (.ishr, 1) := by decide +kernel
theorem dX0_begin_41 : decode cX0_begin 41 = .ok (.iconst 1, 1) := by decide +kernel
theorem dX0_begin_42 : decode cX0_begin 42 = .ok (.iand, 1) := by decide +kernel
theorem dX0_begin_43 : decode cX0_begin 43 = .ok (.iconst 1, 1) := by decide +kernel
theorem dX0_begin_44 : decode cX0_begin 44 = .ok (.if_icmp .ne 53, 3) := by decide +kernel
theorem dX0_begin_47 : decode cX0_begin 47 = .ok (.aload_n 0, 1) := by decide +kernel
theorem dX0_begin_48 : decode cX0_begin 48 = .ok (.getfield 11, 3) := by decide +kernel
theorem dX0_begin_51 : decode cX0_begin 51 = .ok (.aload_n 0, 1) := by decide +kernel
theorem dX0_begin_52 : decode cX0_begin 52 = .ok (.getfield 64, 3) := by decide +kernel
theorem dX0_begin_55 : decode cX0_begin 55 = .ok (.aaload, 1) := by decide +kernel
theorem dX0_begin_56 : decode cX0_begin 56 = .ok (.aload_n 1, 1) := by decide +kernel
theorem dX0_begin_57 : decode cX0_begin 57 = .ok (.iload 5, 2) := by decide +kernel
theorem dX0_begin_59 : decode cX0_begin 59 = .ok (.aaload, 1) := by decide +kernel
theorem dX0_begin_60 : decode cX0_begin 60 = .ok (.invokevirtual 70, 3) := by decide +kernel
theorem dX0_begin_63 : decode cX0_begin 63 = .ok (.aload_n 0, 1) := by decide +kernel
theorem dX0_begin_64 : decode cX0_begin 64 = .ok (.getfield 11, 3) := by decide +kernel
theorem dX0_begin_67 : decode cX0_begin 67 = .ok (.aload_n 0, 1) := by decide +kernel
theorem dX0_begin_68 : decode cX0_begin 68 = .ok (.getfield 64, 3) := by decide +kernel
theorem dX0_begin_71 : decode cX0_begin 71 = .ok (.aaload, 1) := by decide +kernel
theorem dX0_begin_72 : decode cX0_begin 72 = .ok (.getfield 60, 3) := by decide +kernel
theorem dX0_begin_75 : decode cX0_begin 75 = .ok (.iload 5, 2) := by decide +kernel
theorem dX0_begin_77 : decode cX0_begin 77 = .ok (.aaload, 1) := by decide +kernel
theorem dX0_begin_78 : decode cX0_begin 78 = .ok (.aload 4, 2) := by decide +kernel
theorem dX0_begin_80 : decode cX0_begin 80 = .ok (.iconst 1, 1) := by decide +kernel
theorem dX0_begin_81 : decode cX0_begin 81 = .ok (.invokevirtual 73, 3) := by decide +kernel
theorem dX0_begin_84 : decode cX0_begin 84 = .ok (.invokevirtual 79, 3) := by decide +kernel
theorem dX0_begin_87 : decode cX0_begin 87 = .ok (.aload_n 0, 1) := by decide +kernel
theorem dX0_begin_88 : decode cX0_begin 88 = .ok (.dup, 1) := by decide +kernel
theorem dX0_begin_89 : decode cX0_begin 89 = .ok (.getfield 64, 3) := by decide +kernel
theorem dX0_begin_92 : decode cX0_begin 92 = .ok (.iconst 1, 1) := by decide +kernel
theorem dX0_begin_93 : decode cX0_begin 93 = .ok (.iadd, 1) := by decide +kernel
theorem dX0_begin_94 : decode cX0_begin 94 = .ok (.putfield 64, 3) := by decide +kernel
theorem dX0_begin_97 : decode cX0_begin 97 = .ok (.iinc 5 1, 3) := by decide +kernel
theorem dX0_begin_100 : decode cX0_begin 100 = .ok (.goto (-77), 3) := by decide +kernel
theorem dX0_begin_103 : decode cX0_begin 103 = .ok (.iload_n 2, 1) := by decide +kernel
theorem dX0_begin_104 : decode cX0_begin 104 = .ok (.ifCond .lt 30, 3) := by decide +kernel
theorem dX0_begin_107 : decode cX0_begin 107 = .ok (.iload_n 2, 1) := by decide +kernel
theorem dX0_begin_108 : decode cX0_begin 108 = .ok (.aload_n 1, 1) := by decide +kernel
theorem dX0_begin_109 : decode cX0_begin 109 = .ok (.arraylength, 1) := by decide +kernel
theorem dX0_begin_110 : decode cX0_begin 110 = .ok (.if_icmp .ge 24, 3) := by decide +kernel
theorem dX0_begin_113 : decode cX0_begin 113 = .ok (.aload_n 0, 1) := by decide +kernel
theorem dX0_begin_114 : decode cX0_begin 114 = .ok (.getfield 23, 3) := by decide +kernel
theorem dX0_begin_117 : decode cX0_begin 117 = .ok (.aload_n 1, 1) := by decide +kernel
theorem dX0_begin_118 : decode cX0_begin 118 = .ok (.iload_n 2, 1) := by decide +kernel
theorem dX0_begin_119 : decode cX0_begin 119 = .ok (.aaload, 1) := by decide +kernel
theorem dX0_begin_120 : decode cX0_begin 120 = .ok (.invokevirtual 70, 3) := by decide +kernel
theorem dX0_begin_123 : decode cX0_begin 123 = .ok (.aload_n 0, 1) := by decide +kernel
theorem dX0_begin_124 : decode cX0_begin 124 = .ok (.getfield 23, 3) := by decide +kernel
theorem dX0_begin_127 : decode cX0_begin 127 = .ok (.getfield 54, 3) := by decide +kernel
theorem dX0_begin_130 : decode cX0_begin 130 = .ok (.iconst 1, 1) := by decide +kernel
theorem dX0_begin_131 : decode cX0_begin 131 = .ok (.invokevirtual 79, 3) := by decide +kernel
theorem dX0_begin_134 : decode cX0_begin 134 = .ok (.return_, 1) := by decide +kernel
theorem dX0_bestDivisor_0 : decode cX0_bestDivisor 0 = .ok (.aload_n 0, 1) := by decide +kernel
theorem dX0_bestDivisor_1 : decode cX0_bestDivisor 1 = .ok (.getfield 23, 3) := by decide +kernel
theorem dX0_bestDivisor_4 : decode cX0_bestDivisor 4 = .ok (.getfield 50, 3) := by decide +kernel
theorem dX0_bestDivisor_7 : decode cX0_bestDivisor 7 = .ok (.getfield 85, 3) := by decide +kernel
theorem dX0_bestDivisor_10 : decode cX0_bestDivisor 10 = .ok (.ifCond .ne 5, 3) := by decide +kernel
theorem dX0_bestDivisor_13 : decode cX0_bestDivisor 13 = .ok (.iconst (-1), 1) := by decide +kernel
theorem dX0_bestDivisor_14 : decode cX0_bestDivisor 14 = .ok (.ireturn, 1) := by decide +kernel
theorem dX0_bestDivisor_15 : decode cX0_bestDivisor 15 = .ok (.iconst (-1), 1) := by decide +kernel
theorem dX0_bestDivisor_16 : decode cX0_bestDivisor 16 = .ok (.istore_n 1, 1) := by decide +kernel
theorem dX0_bestDivisor_17 : decode cX0_bestDivisor 17 = .ok (.iconst 0, 1) := by decide +kernel
theorem dX0_bestDivisor_18 : decode cX0_bestDivisor 18 = .ok (.istore_n 2, 1) := by decide +kernel
theorem dX0_bestDivisor_19 : decode cX0_bestDivisor 19 = .ok (.iconst 0, 1) := by decide +kernel
theorem dX0_bestDivisor_20 : decode cX0_bestDivisor 20 = .ok (.istore_n 3, 1) := by decide +kernel
theorem dX0_bestDivisor_21 : decode cX0_bestDivisor 21 = .ok (.iload_n 3, 1) := by decide +kernel
theorem dX0_bestDivisor_22 : decode cX0_bestDivisor 22 = .ok (.aload_n 0, 1) := by decide +kernel
theorem dX0_bestDivisor_23 : decode cX0_bestDivisor 23 = .ok (.getfield 64, 3) := by decide +kernel
theorem dX0_bestDivisor_26 : decode cX0_bestDivisor 26 = .ok (.if_icmp .ge 93, 3) := by decide +kernel
theorem dX0_bestDivisor_29 : decode cX0_bestDivisor 29 = .ok (.iload_n 3, 1) := by decide +kernel
theorem dX0_bestDivisor_30 : decode cX0_bestDivisor 30 = .ok (.bipush 20, 2) := by decide +kernel
theorem dX0_bestDivisor_32 : decode cX0_bestDivisor 32 = .ok (.if_icmp .ge 87, 3) := by decide +kernel
theorem dX0_bestDivisor_35 : decode cX0_bestDivisor 35 = .ok (.aload_n 0, 1) := by decide +kernel
theorem dX0_bestDivisor_36 : decode cX0_bestDivisor 36 = .ok (.getfield 11, 3) := by decide +kernel
theorem dX0_bestDivisor_39 : decode cX0_bestDivisor 39 = .ok (.iload_n 3, 1) := by decide +kernel
theorem dX0_bestDivisor_40 : decode cX0_bestDivisor 40 = .ok (.aaload, 1) := by decide +kernel
theorem dX0_bestDivisor_41 : decode cX0_bestDivisor 41 = .ok (.getfield 50, 3) := by decide +kernel
theorem dX0_bestDivisor_44 : decode cX0_bestDivisor 44 = .ok (.astore 4, 2) := by decide +kernel
theorem dX0_bestDivisor_46 : decode cX0_bestDivisor 46 = .ok (.aload 4, 2) := by decide +kernel
theorem dX0_bestDivisor_48 : decode cX0_bestDivisor 48 = .ok (.getfield 85, 3) := by decide +kernel
theorem dX0_bestDivisor_51 : decode cX0_bestDivisor 51 = .ok (.ifCond .le 32, 3) := by decide +kernel
theorem dX0_bestDivisor_54 : decode cX0_bestDivisor 54 = .ok (.aload 4, 2) := by decide +kernel
theorem dX0_bestDivisor_56 : decode cX0_bestDivisor 56 = .ok (.getfield 88, 3) := by decide +kernel
theorem dX0_bestDivisor_59 : decode cX0_bestDivisor 59 = .ok (.iconst 0, 1) := by decide +kernel
theorem dX0_bestDivisor_60 : decode cX0_bestDivisor 60 = .ok (.iaload, 1) := by decide +kernel
theorem dX0_bestDivisor_61 : decode cX0_bestDivisor 61 = .ok (.aload_n 0, 1) := by decide +kernel
theorem dX0_bestDivisor_62 : decode cX0_bestDivisor 62 = .ok (.getfield 23, 3) := by decide +kernel
theorem dX0_bestDivisor_65 : decode cX0_bestDivisor 65 = .ok (.getfield 50, 3) := by decide +kernel
theorem dX0_bestDivisor_68 : decode cX0_bestDivisor 68 = .ok (.getfield 88, 3) := by decide +kernel
theorem dX0_bestDivisor_71 : decode cX0_bestDivisor 71 = .ok (.iconst 0, 1) := by decide +kernel
theorem dX0_bestDivisor_72 : decode cX0_bestDivisor 72 = .ok (.iaload, 1) := by decide +kernel
theorem dX0_bestDivisor_73 : decode cX0_bestDivisor 73 = .ok (.invokestatic 92, 3) := by decide +kernel
theorem dX0_bestDivisor_76 : decode cX0_bestDivisor 76 = .ok (.ifCond .eq 7, 3) := by decide +kernel
theorem dX0_bestDivisor_79 : decode cX0_bestDivisor 79 = .ok (.iconst 1, 1) := by decide +kernel
theorem dX0_bestDivisor_80 : decode cX0_bestDivisor 80 = .ok (.goto 4, 3) := by decide +kernel
theorem dX0_bestDivisor_83 : decode cX0_bestDivisor 83 = .ok (.iconst 0, 1) := by decide +kernel
theorem dX0_bestDivisor_84 : decode cX0_bestDivisor 84 = .ok (.istore 5, 2) := by decide +kernel
theorem dX0_bestDivisor_86 : decode cX0_bestDivisor 86 = .ok (.iload 5, 2) := by decide +kernel
theorem dX0_bestDivisor_88 : decode cX0_bestDivisor 88 = .ok (.ifCond .eq 25, 3) := by decide +kernel
theorem dX0_bestDivisor_91 : decode cX0_bestDivisor 91 = .ok (.iload_n 1, 1) := by decide +kernel
theorem dX0_bestDivisor_92 : decode cX0_bestDivisor 92 = .ok (.iconst (-1), 1) := by decide +kernel
theorem dX0_bestDivisor_93 : decode cX0_bestDivisor 93 = .ok (.if_icmp .eq 12, 3) := by decide +kernel
theorem dX0_bestDivisor_96 : decode cX0_bestDivisor 96 = .ok (.aload 4, 2) := by decide +kernel
theorem dX0_bestDivisor_98 : decode cX0_bestDivisor 98 = .ok (.invokevirtual 98, 3) := by decide +kernel
theorem dX0_bestDivisor_101 : decode cX0_bestDivisor 101 = .ok (.iload_n 2, 1) := by decide +kernel
theorem dX0_bestDivisor_102 : decode cX0_bestDivisor 102 = .ok (.if_icmp .ge 11, 3) := by decide +kernel
theorem dX0_bestDivisor_105 : decode cX0_bestDivisor 105 = .ok (.iload_n 3, 1) := by decide +kernel
theorem dX0_bestDivisor_106 : decode cX0_bestDivisor 106 = .ok (.istore_n 1, 1) := by decide +kernel
theorem dX0_bestDivisor_107 : decode cX0_bestDivisor 107 = .ok (.aload 4, 2) := by decide +kernel
theorem dX0_bestDivisor_109 : decode cX0_bestDivisor 109 = .ok (.invokevirtual 98, 3) := by decide +kernel
theorem dX0_bestDivisor_112 : decode cX0_bestDivisor 112 = .ok (.istore_n 2, 1) := by decide +kernel
theorem dX0_bestDivisor_113 : decode cX0_bestDivisor 113 = .ok (.iinc 3 1, 3) := by decide +kernel
theorem dX0_bestDivisor_116 : decode cX0_bestDivisor 116 = .ok (.goto (-95), 3) := by decide +kernel
theorem dX0_bestDivisor_119 : decode cX0_bestDivisor 119 = .ok (.iload_n 1, 1) := by decide +kernel
theorem dX0_bestDivisor_120 : decode cX0_bestDivisor 120 = .ok (.ireturn, 1) := by decide +kernel
theorem dX0_stepBy_0 : decode cX0_stepBy 0 = .ok (.iload_n 1, 1) := by decide +kernel
theorem dX0_stepBy_1 : decode cX0_stepBy 1 = .ok (.ifCond .lt 20, 3) := by decide +kernel
theorem dX0_stepBy_4 : decode cX0_stepBy 4 = .ok (.iload_n 1, 1) := by decide +kernel
theorem dX0_stepBy_5 : decode cX0_stepBy 5 = .ok (.aload_n 0, 1) := by decide +kernel
theorem dX0_stepBy_6 : decode cX0_stepBy 6 = .ok (.getfield 64, 3) := by decide +kernel
theorem dX0_stepBy_9 : decode cX0_stepBy 9 = .ok (.if_icmp .ge 12, 3) := by decide +kernel
theorem dX0_stepBy_12 : decode cX0_stepBy 12 = .ok (.aload_n 0, 1) := by decide +kernel
theorem dX0_stepBy_13 : decode cX0_stepBy 13 = .ok (.getfield 46, 3) := by decide +kernel
theorem dX0_stepBy_16 : decode cX0_stepBy 16 = .ok (.bipush 40, 2) := by decide +kernel
theorem dX0_stepBy_18 : decode cX0_stepBy 18 = .ok (.if_icmp .lt 5, 3) := by decide +kernel
theorem dX0_stepBy_21 : decode cX0_stepBy 21 = .ok (.iconst 0, 1) := by decide +kernel
theorem dX0_stepBy_22 : decode cX0_stepBy 22 = .ok (.ireturn, 1) := by decide +kernel
theorem dX0_stepBy_23 : decode cX0_stepBy 23 = .ok (.aload_n 0, 1) := by decide +kernel
theorem dX0_stepBy_24 : decode cX0_stepBy 24 = .ok (.getfield 11, 3) := by decide +kernel
theorem dX0_stepBy_27 : decode cX0_stepBy 27 = .ok (.iload_n 1, 1) := by decide +kernel
theorem dX0_stepBy_28 : decode cX0_stepBy 28 = .ok (.aaload, 1) := by decide +kernel
theorem dX0_stepBy_29 : decode cX0_stepBy 29 = .ok (.astore_n 3, 1) := by decide +kernel
theorem dX0_stepBy_30 : decode cX0_stepBy 30 = .ok (.aload_n 3, 1) := by decide +kernel
theorem dX0_stepBy_31 : decode cX0_stepBy 31 = .ok (.getfield 50, 3) := by decide +kernel
theorem dX0_stepBy_34 : decode cX0_stepBy 34 = .ok (.invokevirtual 98, 3) := by decide +kernel
theorem dX0_stepBy_37 : decode cX0_stepBy 37 = .ok (.aload_n 0, 1) := by decide +kernel
theorem dX0_stepBy_38 : decode cX0_stepBy 38 = .ok (.getfield 23, 3) := by decide +kernel
theorem dX0_stepBy_41 : decode cX0_stepBy 41 = .ok (.getfield 50, 3) := by decide +kernel
theorem dX0_stepBy_44 : decode cX0_stepBy 44 = .ok (.invokevirtual 98, 3) := by decide +kernel
theorem dX0_stepBy_47 : decode cX0_stepBy 47 = .ok (.if_icmp .le 7, 3) := by decide +kernel
theorem dX0_stepBy_50 : decode cX0_stepBy 50 = .ok (.iconst 1, 1) := by decide +kernel
theorem dX0_stepBy_51 : decode cX0_stepBy 51 = .ok (.goto 4, 3) := by decide +kernel
theorem dX0_stepBy_54 : decode cX0_stepBy 54 = .ok (.iconst 0, 1) := by decide +kernel
theorem dX0_stepBy_55 : decode cX0_stepBy 55 = .ok (.istore 4, 2) := by decide +kernel
theorem dX0_stepBy_57 : decode cX0_stepBy 57 = .ok (.iload 4, 2) := by decide +kernel
theorem dX0_stepBy_59 : decode cX0_stepBy 59 = .ok (.ifCond .eq 14, 3) := by decide +kernel
theorem dX0_stepBy_62 : decode cX0_stepBy 62 = .ok (.aload_n 0, 1) := by decide +kernel
theorem dX0_stepBy_63 : decode cX0_stepBy 63 = .ok (.getfield 64, 3) := by decide +kernel
theorem dX0_stepBy_66 : decode cX0_stepBy 66 = .ok (.bipush 20, 2) := by decide +kernel
theorem dX0_stepBy_68 : decode cX0_stepBy 68 = .ok (.if_icmp .lt 5, 3) := by decide +kernel
theorem dX0_stepBy_71 : decode cX0_stepBy 71 = .ok (.iconst 0, 1) := by decide +kernel
theorem dX0_stepBy_72 : decode cX0_stepBy 72 = .ok (.ireturn, 1) := by decide +kernel
theorem dX0_stepBy_73 : decode cX0_stepBy 73 = .ok (.aload_n 0, 1) := by decide +kernel
theorem dX0_stepBy_74 : decode cX0_stepBy 74 = .ok (.getfield 19, 3) := by decide +kernel
theorem dX0_stepBy_77 : decode cX0_stepBy 77 = .ok (.aload_n 0, 1) := by decide +kernel
theorem dX0_stepBy_78 : decode cX0_stepBy 78 = .ok (.getfield 46, 3) := by decide +kernel
theorem dX0_stepBy_81 : decode cX0_stepBy 81 = .ok (.aaload, 1) := by decide +kernel
theorem dX0_stepBy_82 : decode cX0_stepBy 82 = .ok (.iconst 0, 1) := by decide +kernel
theorem dX0_stepBy_83 : decode cX0_stepBy 83 = .ok (.iload_n 1, 1) := by decide +kernel
theorem dX0_stepBy_84 : decode cX0_stepBy 84 = .ok (.iastore, 1) := by decide +kernel
theorem dX0_stepBy_85 : decode cX0_stepBy 85 = .ok (.aload_n 0, 1) := by decide +kernel
theorem dX0_stepBy_86 : decode cX0_stepBy 86 = .ok (.getfield 19, 3) := by decide +kernel
theorem dX0_stepBy_89 : decode cX0_stepBy 89 = .ok (.aload_n 0, 1) := by decide +kernel
theorem dX0_stepBy_90 : decode cX0_stepBy 90 = .ok (.getfield 46, 3) := by decide +kernel
theorem dX0_stepBy_93 : decode cX0_stepBy 93 = .ok (.aaload, 1) := by decide +kernel
theorem dX0_stepBy_94 : decode cX0_stepBy 94 = .ok (.iconst 1, 1) := by decide +kernel
theorem dX0_stepBy_95 : decode cX0_stepBy 95 = .ok (.aload_n 3, 1) := by decide +kernel
theorem dX0_stepBy_96 : decode cX0_stepBy 96 = .ok (.getfield 50, 3) := by decide +kernel
theorem dX0_stepBy_99 : decode cX0_stepBy 99 = .ok (.invokevirtual 98, 3) := by decide +kernel
theorem dX0_stepBy_102 : decode cX0_stepBy 102 = .ok (.iastore, 1) := by decide +kernel
theorem dX0_stepBy_103 : decode cX0_stepBy 103 = .ok (.aload_n 0, 1) := by decide +kernel
theorem dX0_stepBy_104 : decode cX0_stepBy 104 = .ok (.getfield 19, 3) := by decide +kernel
theorem dX0_stepBy_107 : decode cX0_stepBy 107 = .ok (.aload_n 0, 1) := by decide +kernel
theorem dX0_stepBy_108 : decode cX0_stepBy 108 = .ok (.getfield 46, 3) := by decide +kernel
theorem dX0_stepBy_111 : decode cX0_stepBy 111 = .ok (.aaload, 1) := by decide +kernel
theorem dX0_stepBy_112 : decode cX0_stepBy 112 = .ok (.iconst 2, 1) := by decide +kernel
theorem dX0_stepBy_113 : decode cX0_stepBy 113 = .ok (.aload_n 0, 1) := by decide +kernel
theorem dX0_stepBy_114 : decode cX0_stepBy 114 = .ok (.getfield 23, 3) := by decide +kernel
theorem dX0_stepBy_117 : decode cX0_stepBy 117 = .ok (.getfield 50, 3) := by decide +kernel
theorem dX0_stepBy_120 : decode cX0_stepBy 120 = .ok (.invokevirtual 98, 3) := by decide +kernel
theorem dX0_stepBy_123 : decode cX0_stepBy 123 = .ok (.iastore, 1) := by decide +kernel
theorem dX0_stepBy_124 : decode cX0_stepBy 124 = .ok (.aload_n 0, 1) := by decide +kernel
theorem dX0_stepBy_125 : decode cX0_stepBy 125 = .ok (.getfield 19, 3) := by decide +kernel
theorem dX0_stepBy_128 : decode cX0_stepBy 128 = .ok (.aload_n 0, 1) := by decide +kernel
theorem dX0_stepBy_129 : decode cX0_stepBy 129 = .ok (.getfield 46, 3) := by decide +kernel
theorem dX0_stepBy_132 : decode cX0_stepBy 132 = .ok (.aaload, 1) := by decide +kernel
theorem dX0_stepBy_133 : decode cX0_stepBy 133 = .ok (.iconst 3, 1) := by decide +kernel
theorem dX0_stepBy_134 : decode cX0_stepBy 134 = .ok (.iload 4, 2) := by decide +kernel
theorem dX0_stepBy_136 : decode cX0_stepBy 136 = .ok (.ifCond .eq 7, 3) := by decide +kernel
theorem dX0_stepBy_139 : decode cX0_stepBy 139 = .ok (.iconst 1, 1) := by decide +kernel
theorem dX0_stepBy_140 : decode cX0_stepBy 140 = .ok (.goto 4, 3) := by decide +kernel
theorem dX0_stepBy_143 : decode cX0_stepBy 143 = .ok (.iconst 0, 1) := by decide +kernel
theorem dX0_stepBy_144 : decode cX0_stepBy 144 = .ok (.iastore, 1) := by decide +kernel
theorem dX0_stepBy_145 : decode cX0_stepBy 145 = .ok (.aload_n 0, 1) := by decide +kernel
theorem dX0_stepBy_146 : decode cX0_stepBy 146 = .ok (.getfield 19, 3) := by decide +kernel
theorem dX0_stepBy_149 : decode cX0_stepBy 149 = .ok (.aload_n 0, 1) := by decide +kernel
theorem dX0_stepBy_150 : decode cX0_stepBy 150 = .ok (.getfield 46, 3) := by decide +kernel
theorem dX0_stepBy_153 : decode cX0_stepBy 153 = .ok (.aaload, 1) := by decide +kernel
theorem dX0_stepBy_154 : decode cX0_stepBy 154 = .ok (.iconst 4, 1) := by decide +kernel
theorem dX0_stepBy_155 : decode cX0_stepBy 155 = .ok (.aload_n 0, 1) := by decide +kernel
theorem dX0_stepBy_156 : decode cX0_stepBy 156 = .ok (.getfield 23, 3) := by decide +kernel
theorem dX0_stepBy_159 : decode cX0_stepBy 159 = .ok (.getfield 50, 3) := by decide +kernel
theorem dX0_stepBy_162 : decode cX0_stepBy 162 = .ok (.invokevirtual 101, 3) := by decide +kernel
theorem dX0_stepBy_165 : decode cX0_stepBy 165 = .ok (.iastore, 1) := by decide +kernel
theorem dX0_stepBy_166 : decode cX0_stepBy 166 = .ok (.aload_n 0, 1) := by decide +kernel
theorem dX0_stepBy_167 : decode cX0_stepBy 167 = .ok (.dup, 1) := by decide +kernel
theorem dX0_stepBy_168 : decode cX0_stepBy 168 = .ok (.getfield 46, 3) := by decide +kernel
theorem dX0_stepBy_171 : decode cX0_stepBy 171 = .ok (.iconst 1, 1) := by decide +kernel
theorem dX0_stepBy_172 : decode cX0_stepBy 172 = .ok (.iadd, 1) := by decide +kernel
theorem dX0_stepBy_173 : decode cX0_stepBy 173 = .ok (.putfield 46, 3) := by decide +kernel
theorem dX0_stepBy_176 : decode cX0_stepBy 176 = .ok (.iload 4, 2) := by decide +kernel
theorem dX0_stepBy_178 : decode cX0_stepBy 178 = .ok (.ifCond .eq 29, 3) := by decide +kernel
theorem dX0_stepBy_181 : decode cX0_stepBy 181 = .ok (.aload_n 0, 1) := by decide +kernel
theorem dX0_stepBy_182 : decode cX0_stepBy 182 = .ok (.getfield 11, 3) := by decide +kernel
theorem dX0_stepBy_185 : decode cX0_stepBy 185 = .ok (.aload_n 0, 1) := by decide +kernel
theorem dX0_stepBy_186 : decode cX0_stepBy 186 = .ok (.getfield 64, 3) := by decide +kernel
theorem dX0_stepBy_189 : decode cX0_stepBy 189 = .ok (.aaload, 1) := by decide +kernel
theorem dX0_stepBy_190 : decode cX0_stepBy 190 = .ok (.aload_n 0, 1) := by decide +kernel
theorem dX0_stepBy_191 : decode cX0_stepBy 191 = .ok (.getfield 23, 3) := by decide +kernel
theorem dX0_stepBy_194 : decode cX0_stepBy 194 = .ok (.invokevirtual 104, 3) := by decide +kernel
theorem dX0_stepBy_197 : decode cX0_stepBy 197 = .ok (.aload_n 0, 1) := by decide +kernel
theorem dX0_stepBy_198 : decode cX0_stepBy 198 = .ok (.dup, 1) := by decide +kernel
theorem dX0_stepBy_199 : decode cX0_stepBy 199 = .ok (.getfield 64, 3) := by decide +kernel
theorem dX0_stepBy_202 : decode cX0_stepBy 202 = .ok (.iconst 1, 1) := by decide +kernel
theorem dX0_stepBy_203 : decode cX0_stepBy 203 = .ok (.iadd, 1) := by decide +kernel
theorem dX0_stepBy_204 : decode cX0_stepBy 204 = .ok (.putfield 64, 3) := by decide +kernel
theorem dX0_stepBy_207 : decode cX0_stepBy 207 = .ok (.aload_n 0, 1) := by decide +kernel
theorem dX0_stepBy_208 : decode cX0_stepBy 208 = .ok (.aload_n 3, 1) := by decide +kernel
theorem dX0_stepBy_209 : decode cX0_stepBy 209 = .ok (.aload_n 2, 1) := by decide +kernel
theorem dX0_stepBy_210 : decode cX0_stepBy 210 = .ok (.invokevirtual 108, 3) := by decide +kernel
theorem dX0_stepBy_213 : decode cX0_stepBy 213 = .ok (.ireturn, 1) := by decide +kernel
theorem dX0_subtract_0 : decode cX0_subtract 0 = .ok (.aload_n 0, 1) := by decide +kernel
theorem dX0_subtract_1 : decode cX0_subtract 1 = .ok (.getfield 23, 3) := by decide +kernel
theorem dX0_subtract_4 : decode cX0_subtract 4 = .ok (.getfield 50, 3) := by decide +kernel
theorem dX0_subtract_7 : decode cX0_subtract 7 = .ok (.getfield 85, 3) := by decide +kernel
theorem dX0_subtract_10 : decode cX0_subtract 10 = .ok (.ifCond .eq 13, 3) := by decide +kernel
theorem dX0_subtract_13 : decode cX0_subtract 13 = .ok (.aload_n 1, 1) := by decide +kernel
theorem dX0_subtract_14 : decode cX0_subtract 14 = .ok (.getfield 50, 3) := by decide +kernel
theorem dX0_subtract_17 : decode cX0_subtract 17 = .ok (.getfield 85, 3) := by decide +kernel
theorem dX0_subtract_20 : decode cX0_subtract 20 = .ok (.ifCond .ne 5, 3) := by decide +kernel
theorem dX0_subtract_23 : decode cX0_subtract 23 = .ok (.iconst 0, 1) := by decide +kernel
theorem dX0_subtract_24 : decode cX0_subtract 24 = .ok (.ireturn, 1) := by decide +kernel
theorem dX0_subtract_25 : decode cX0_subtract 25 = .ok (.aload_n 2, 1) := by decide +kernel
theorem dX0_subtract_26 : decode cX0_subtract 26 = .ok (.aload_n 0, 1) := by decide +kernel
theorem dX0_subtract_27 : decode cX0_subtract 27 = .ok (.getfield 23, 3) := by decide +kernel
theorem dX0_subtract_30 : decode cX0_subtract 30 = .ok (.getfield 50, 3) := by decide +kernel
theorem dX0_subtract_33 : decode cX0_subtract 33 = .ok (.getfield 112, 3) := by decide +kernel
theorem dX0_subtract_36 : decode cX0_subtract 36 = .ok (.iconst 0, 1) := by decide +kernel
theorem dX0_subtract_37 : decode cX0_subtract 37 = .ok (.iaload, 1) := by decide +kernel
theorem dX0_subtract_38 : decode cX0_subtract 38 = .ok (.aload_n 2, 1) := by decide +kernel
theorem dX0_subtract_39 : decode cX0_subtract 39 = .ok (.aload_n 1, 1) := by decide +kernel
theorem dX0_subtract_40 : decode cX0_subtract 40 = .ok (.getfield 50, 3) := by decide +kernel
theorem dX0_subtract_43 : decode cX0_subtract 43 = .ok (.getfield 112, 3) := by decide +kernel
theorem dX0_subtract_46 : decode cX0_subtract 46 = .ok (.iconst 0, 1) := by decide +kernel
theorem dX0_subtract_47 : decode cX0_subtract 47 = .ok (.iaload, 1) := by decide +kernel
theorem dX0_subtract_48 : decode cX0_subtract 48 = .ok (.invokevirtual 115, 3) := by decide +kernel
theorem dX0_subtract_51 : decode cX0_subtract 51 = .ok (.invokevirtual 118, 3) := by decide +kernel
theorem dX0_subtract_54 : decode cX0_subtract 54 = .ok (.istore_n 3, 1) := by decide +kernel
theorem dX0_subtract_55 : decode cX0_subtract 55 = .ok (.aload_n 0, 1) := by decide +kernel
theorem dX0_subtract_56 : decode cX0_subtract 56 = .ok (.getfield 23, 3) := by decide +kernel
theorem dX0_subtract_59 : decode cX0_subtract 59 = .ok (.getfield 50, 3) := by decide +kernel
theorem dX0_subtract_62 : decode cX0_subtract 62 = .ok (.getfield 88, 3) := by decide +kernel
theorem dX0_subtract_65 : decode cX0_subtract 65 = .ok (.iconst 0, 1) := by decide +kernel
theorem dX0_subtract_66 : decode cX0_subtract 66 = .ok (.iaload, 1) := by decide +kernel
theorem dX0_subtract_67 : decode cX0_subtract 67 = .ok (.aload_n 1, 1) := by decide +kernel
theorem dX0_subtract_68 : decode cX0_subtract 68 = .ok (.getfield 50, 3) := by decide +kernel
theorem dX0_subtract_71 : decode cX0_subtract 71 = .ok (.getfield 88, 3) := by decide +kernel
theorem dX0_subtract_74 : decode cX0_subtract 74 = .ok (.iconst 0, 1) := by decide +kernel
theorem dX0_subtract_75 : decode cX0_subtract 75 = .ok (.iaload, 1) := by decide +kernel
theorem dX0_subtract_76 : decode cX0_subtract 76 = .ok (.invokestatic 122, 3) := by decide +kernel
theorem dX0_subtract_79 : decode cX0_subtract 79 = .ok (.istore 4, 2) := by decide +kernel
theorem dX0_subtract_81 : decode cX0_subtract 81 = .ok (.aload_n 0, 1) := by decide +kernel
theorem dX0_subtract_82 : decode cX0_subtract 82 = .ok (.getfield 27, 3) := by decide +kernel
theorem dX0_subtract_85 : decode cX0_subtract 85 = .ok (.aload_n 0, 1) := by decide +kernel
theorem dX0_subtract_86 : decode cX0_subtract 86 = .ok (.getfield 23, 3) := by decide +kernel
theorem dX0_subtract_89 : decode cX0_subtract 89 = .ok (.aload_n 2, 1) := by decide +kernel
theorem dX0_subtract_90 : decode cX0_subtract 90 = .ok (.iload_n 3, 1) := by decide +kernel
theorem dX0_subtract_91 : decode cX0_subtract 91 = .ok (.invokevirtual 73, 3) := by decide +kernel
theorem dX0_subtract_94 : decode cX0_subtract 94 = .ok (.iload 4, 2) := by decide +kernel
theorem dX0_subtract_96 : decode cX0_subtract 96 = .ok (.aload_n 1, 1) := by decide +kernel
theorem dX0_subtract_97 : decode cX0_subtract 97 = .ok (.aload_n 2, 1) := by decide +kernel
theorem dX0_subtract_98 : decode cX0_subtract 98 = .ok (.invokevirtual 125, 3) := by decide +kernel
theorem dX0_subtract_101 : decode cX0_subtract 101 = .ok (.istore 5, 2) := by decide +kernel
theorem dX0_subtract_103 : decode cX0_subtract 103 = .ok (.aload_n 0, 1) := by decide +kernel
theorem dX0_subtract_104 : decode cX0_subtract 104 = .ok (.getfield 23, 3) := by decide +kernel
theorem dX0_subtract_107 : decode cX0_subtract 107 = .ok (.astore 6, 2) := by decide +kernel
theorem dX0_subtract_109 : decode cX0_subtract 109 = .ok (.aload_n 0, 1) := by decide +kernel
theorem dX0_subtract_110 : decode cX0_subtract 110 = .ok (.aload_n 0, 1) := by decide +kernel
theorem dX0_subtract_111 : decode cX0_subtract 111 = .ok (.getfield 27, 3) := by decide +kernel
theorem dX0_subtract_114 : decode cX0_subtract 114 = .ok (.putfield 23, 3) := by decide +kernel
theorem dX0_subtract_117 : decode cX0_subtract 117 = .ok (.aload_n 0, 1) := by decide +kernel
theorem dX0_subtract_118 : decode cX0_subtract 118 = .ok (.aload 6, 2) := by decide +kernel
theorem dX0_subtract_120 : decode cX0_subtract 120 = .ok (.putfield 27, 3) := by decide +kernel
theorem dX0_subtract_123 : decode cX0_subtract 123 = .ok (.iload 5, 2) := by decide +kernel
theorem dX0_subtract_125 : decode cX0_subtract 125 = .ok (.ireturn, 1) := by decide +kernel
