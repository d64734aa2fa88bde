theorem dX1_init_0 : decode cX1_init 0 = .ok (.aload_n 0, 1) := by decide +kernel
theorem dX1_init_1 : decode cX1_init 1 = .ok (.invokespecial 3, 3) := by decide +kernel
theorem dX1_init_4 : decode cX1_init 4 = .ok (.aload_n 0, 1) := by decide +kernel
theorem dX1_init_5 : decode cX1_init 5 = .ok (.new 9, 3) := by decide +kernel
theorem dX1_init_8 : decode cX1_init 8 = .ok (.dup, 1) := by decide +kernel
theorem dX1_init_9 : decode cX1_init 9 = .ok (.bipush 60, 2) := by decide +kernel
theorem dX1_init_11 : decode cX1_init 11 = .ok (.invokespecial 11, 3) := by decide +kernel
theorem dX1_init_14 : decode cX1_init 14 = .ok (.putfield 14, 3) := by decide +kernel
theorem dX1_init_17 : decode cX1_init 17 = .ok (.aload_n 0, 1) := by decide +kernel
theorem dX1_init_18 : decode cX1_init 18 = .ok (.new 9, 3) := by decide +kernel
theorem dX1_init_21 : decode cX1_init 21 = .ok (.dup, 1) := by decide +kernel
theorem dX1_init_22 : decode cX1_init 22 = .ok (.bipush 60, 2) := by decide +kernel
theorem dX1_init_24 : decode cX1_init 24 = .ok (.invokespecial 11, 3) := by decide +kernel
theorem dX1_init_27 : decode cX1_init 27 = .ok (.putfield 20, 3) := by decide +kernel
theorem dX1_init_30 : decode cX1_init 30 = .ok (.aload_n 0, 1) := by decide +kernel
theorem dX1_init_31 : decode cX1_init 31 = .ok (.bipush 8, 2) := by decide +kernel
theorem dX1_init_33 : decode cX1_init 33 = .ok (.invokestatic 23, 3) := by decide +kernel
theorem dX1_init_36 : decode cX1_init 36 = .ok (.putfield 27, 3) := by decide +kernel
theorem dX1_init_39 : decode cX1_init 39 = .ok (.return_, 1) := by decide +kernel
theorem dX1_begin_0 : decode cX1_begin 0 = .ok (.aload_n 0, 1) := by decide +kernel
theorem dX1_begin_1 : decode cX1_begin 1 = .ok (.getfield 14, 3) := by decide +kernel
theorem dX1_begin_4 : decode cX1_begin 4 = .ok (.aload_n 1, 1) := by decide +kernel
theorem dX1_begin_5 : decode cX1_begin 5 = .ok (.invokevirtual 31, 3) := by decide +kernel
theorem dX1_begin_8 : decode cX1_begin 8 = .ok (.aload_n 0, 1) := by decide +kernel
theorem dX1_begin_9 : decode cX1_begin 9 = .ok (.getfield 20, 3) := by decide +kernel
theorem dX1_begin_12 : decode cX1_begin 12 = .ok (.invokevirtual 35, 3) := by decide +kernel
theorem dX1_begin_15 : decode cX1_begin 15 = .ok (.aload_n 0, 1) := by decide +kernel
theorem dX1_begin_16 : decode cX1_begin 16 = .ok (.getfield 27, 3) := by decide +kernel
theorem dX1_begin_19 : decode cX1_begin 19 = .ok (.astore_n 2, 1) := by decide +kernel
theorem dX1_begin_20 : decode cX1_begin 20 = .ok (.aload_n 2, 1) := by decide +kernel
theorem dX1_begin_21 : decode cX1_begin 21 = .ok (.arraylength, 1) := by decide +kernel
theorem dX1_begin_22 : decode cX1_begin 22 = .ok (.istore_n 3, 1) := by decide +kernel
theorem dX1_begin_23 : decode cX1_begin 23 = .ok (.iconst 0, 1) := by decide +kernel
theorem dX1_begin_24 : decode cX1_begin 24 = .ok (.istore 4, 2) := by decide +kernel
theorem dX1_begin_26 : decode cX1_begin 26 = .ok (.iload 4, 2) := by decide +kernel
theorem dX1_begin_28 : decode cX1_begin 28 = .ok (.iload_n 3, 1) := by decide +kernel
theorem dX1_begin_29 : decode cX1_begin 29 = .ok (.if_icmp .ge 20, 3) := by decide +kernel
theorem dX1_begin_32 : decode cX1_begin 32 = .ok (.aload_n 2, 1) := by decide +kernel
theorem dX1_begin_33 : decode cX1_begin 33 = .ok (.iload 4, 2) := by decide +kernel
theorem dX1_begin_35 : decode cX1_begin 35 = .ok (.aaload, 1) := by decide +kernel
theorem dX1_begin_36 : decode cX1_begin 36 = .ok (.astore 5, 2) := by decide +kernel
theorem dX1_begin_38 : decode cX1_begin 38 = .ok (.aload 5, 2) := by decide +kernel
theorem dX1_begin_40 : decode cX1_begin 40 = .ok (.invokevirtual 35, 3) := by decide +kernel
theorem dX1_begin_43 : decode cX1_begin 43 = .ok (.iinc 4 1, 3) := by decide +kernel
theorem dX1_begin_46 : decode cX1_begin 46 = .ok (.goto (-20), 3) := by decide +kernel
theorem dX1_begin_49 : decode cX1_begin 49 = .ok (.return_, 1) := by decide +kernel
theorem dX1_become_0 : decode cX1_become 0 = .ok (.aload_n 0, 1) := by decide +kernel
theorem dX1_become_1 : decode cX1_become 1 = .ok (.getfield 14, 3) := by decide +kernel
theorem dX1_become_4 : decode cX1_become 4 = .ok (.aload_n 1, 1) := by decide +kernel
theorem dX1_become_5 : decode cX1_become 5 = .ok (.getfield 14, 3) := by decide +kernel
theorem dX1_become_8 : decode cX1_become 8 = .ok (.invokevirtual 31, 3) := by decide +kernel
theorem dX1_become_11 : decode cX1_become 11 = .ok (.aload_n 0, 1) := by decide +kernel
theorem dX1_become_12 : decode cX1_become 12 = .ok (.getfield 20, 3) := by decide +kernel
theorem dX1_become_15 : decode cX1_become 15 = .ok (.aload_n 1, 1) := by decide +kernel
theorem dX1_become_16 : decode cX1_become 16 = .ok (.getfield 20, 3) := by decide +kernel
theorem dX1_become_19 : decode cX1_become 19 = .ok (.invokevirtual 31, 3) := by decide +kernel
theorem dX1_become_22 : decode cX1_become 22 = .ok (.iconst 0, 1) := by decide +kernel
theorem dX1_become_23 : decode cX1_become 23 = .ok (.istore_n 2, 1) := by decide +kernel
theorem dX1_become_24 : decode cX1_become 24 = .ok (.iload_n 2, 1) := by decide +kernel
theorem dX1_become_25 : decode cX1_become 25 = .ok (.bipush 8, 2) := by decide +kernel
theorem dX1_become_27 : decode cX1_become 27 = .ok (.if_icmp .ge 24, 3) := by decide +kernel
theorem dX1_become_30 : decode cX1_become 30 = .ok (.aload_n 0, 1) := by decide +kernel
theorem dX1_become_31 : decode cX1_become 31 = .ok (.getfield 27, 3) := by decide +kernel
theorem dX1_become_34 : decode cX1_become 34 = .ok (.iload_n 2, 1) := by decide +kernel
theorem dX1_become_35 : decode cX1_become 35 = .ok (.aaload, 1) := by decide +kernel
theorem dX1_become_36 : decode cX1_become 36 = .ok (.aload_n 1, 1) := by decide +kernel
theorem dX1_become_37 : decode cX1_become 37 = .ok (.getfield 27, 3) := by decide +kernel
theorem dX1_become_40 : decode cX1_become 40 = .ok (.iload_n 2, 1) := by decide +kernel
theorem dX1_become_41 : decode cX1_become 41 = .ok (.aaload, 1) := by decide +kernel
theorem dX1_become_42 : decode cX1_become 42 = .ok (.invokevirtual 31, 3) := by decide +kernel
theorem dX1_become_45 : decode cX1_become 45 = .ok (.iinc 2 1, 3) := by decide +kernel
theorem dX1_become_48 : decode cX1_become 48 = .ok (.goto (-24), 3) := by decide +kernel
theorem dX1_become_51 : decode cX1_become 51 = .ok (.return_, 1) := by decide +kernel
theorem dX1_mix_0 : decode cX1_mix 0 = .ok (.aload_n 0, 1) := by decide +kernel
theorem dX1_mix_1 : decode cX1_mix 1 = .ok (.getfield 14, 3) := by decide +kernel
theorem dX1_mix_4 : decode cX1_mix 4 = .ok (.aload_n 1, 1) := by decide +kernel
theorem dX1_mix_5 : decode cX1_mix 5 = .ok (.getfield 14, 3) := by decide +kernel
theorem dX1_mix_8 : decode cX1_mix 8 = .ok (.iload_n 2, 1) := by decide +kernel
theorem dX1_mix_9 : decode cX1_mix 9 = .ok (.iload_n 3, 1) := by decide +kernel
theorem dX1_mix_10 : decode cX1_mix 10 = .ok (.aload 4, 2) := by decide +kernel
theorem dX1_mix_12 : decode cX1_mix 12 = .ok (.getfield 14, 3) := by decide +kernel
theorem dX1_mix_15 : decode cX1_mix 15 = .ok (.aload 5, 2) := by decide +kernel
theorem dX1_mix_17 : decode cX1_mix 17 = .ok (.invokevirtual 38, 3) := by decide +kernel
theorem dX1_mix_20 : decode cX1_mix 20 = .ok (.ifCond .eq 30, 3) := by decide +kernel
theorem dX1_mix_23 : decode cX1_mix 23 = .ok (.aload_n 0, 1) := by decide +kernel
theorem dX1_mix_24 : decode cX1_mix 24 = .ok (.getfield 20, 3) := by decide +kernel
theorem dX1_mix_27 : decode cX1_mix 27 = .ok (.aload_n 1, 1) := by decide +kernel
theorem dX1_mix_28 : decode cX1_mix 28 = .ok (.getfield 20, 3) := by decide +kernel
theorem dX1_mix_31 : decode cX1_mix 31 = .ok (.iload_n 2, 1) := by decide +kernel
theorem dX1_mix_32 : decode cX1_mix 32 = .ok (.iload_n 3, 1) := by decide +kernel
theorem dX1_mix_33 : decode cX1_mix 33 = .ok (.aload 4, 2) := by decide +kernel
theorem dX1_mix_35 : decode cX1_mix 35 = .ok (.getfield 20, 3) := by decide +kernel
theorem dX1_mix_38 : decode cX1_mix 38 = .ok (.aload 5, 2) := by decide +kernel
theorem dX1_mix_40 : decode cX1_mix 40 = .ok (.invokevirtual 38, 3) := by decide +kernel
theorem dX1_mix_43 : decode cX1_mix 43 = .ok (.ifCond .eq 7, 3) := by decide +kernel
theorem dX1_mix_46 : decode cX1_mix 46 = .ok (.iconst 1, 1) := by decide +kernel
theorem dX1_mix_47 : decode cX1_mix 47 = .ok (.goto 4, 3) := by decide +kernel
theorem dX1_mix_50 : decode cX1_mix 50 = .ok (.iconst 0, 1) := by decide +kernel
theorem dX1_mix_51 : decode cX1_mix 51 = .ok (.istore 6, 2) := by decide +kernel
theorem dX1_mix_53 : decode cX1_mix 53 = .ok (.iconst 0, 1) := by decide +kernel
theorem dX1_mix_54 : decode cX1_mix 54 = .ok (.istore 7, 2) := by decide +kernel
theorem dX1_mix_56 : decode cX1_mix 56 = .ok (.iload 7, 2) := by decide +kernel
theorem dX1_mix_58 : decode cX1_mix 58 = .ok (.bipush 8, 2) := by decide +kernel
theorem dX1_mix_60 : decode cX1_mix 60 = .ok (.if_icmp .ge 45, 3) := by decide +kernel
theorem dX1_mix_63 : decode cX1_mix 63 = .ok (.iload 6, 2) := by decide +kernel
theorem dX1_mix_65 : decode cX1_mix 65 = .ok (.ifCond .eq 40, 3) := by decide +kernel
theorem dX1_mix_68 : decode cX1_mix 68 = .ok (.aload_n 0, 1) := by decide +kernel
theorem dX1_mix_69 : decode cX1_mix 69 = .ok (.getfield 27, 3) := by decide +kernel
theorem dX1_mix_72 : decode cX1_mix 72 = .ok (.iload 7, 2) := by decide +kernel
theorem dX1_mix_74 : decode cX1_mix 74 = .ok (.aaload, 1) := by decide +kernel
theorem dX1_mix_75 : decode cX1_mix 75 = .ok (.aload_n 1, 1) := by decide +kernel
theorem dX1_mix_76 : decode cX1_mix 76 = .ok (.getfield 27, 3) := by decide +kernel
theorem dX1_mix_79 : decode cX1_mix 79 = .ok (.iload 7, 2) := by decide +kernel
theorem dX1_mix_81 : decode cX1_mix 81 = .ok (.aaload, 1) := by decide +kernel
theorem dX1_mix_82 : decode cX1_mix 82 = .ok (.iload_n 2, 1) := by decide +kernel
theorem dX1_mix_83 : decode cX1_mix 83 = .ok (.iload_n 3, 1) := by decide +kernel
theorem dX1_mix_84 : decode cX1_mix 84 = .ok (.aload 4, 2) := by decide +kernel
theorem dX1_mix_86 : decode cX1_mix 86 = .ok (.getfield 27, 3) := by decide +kernel
theorem dX1_mix_89 : decode cX1_mix 89 = .ok (.iload 7, 2) := by decide +kernel
theorem dX1_mix_91 : decode cX1_mix 91 = .ok (.aaload, 1) := by decide +kernel
theorem dX1_mix_92 : decode cX1_mix 92 = .ok (.aload 5, 2) := by decide +kernel
theorem dX1_mix_94 : decode cX1_mix 94 = .ok (.invokevirtual 38, 3) := by decide +kernel
theorem dX1_mix_97 : decode cX1_mix 97 = .ok (.istore 6, 2) := by decide +kernel
theorem dX1_mix_99 : decode cX1_mix 99 = .ok (.iinc 7 1, 3) := by decide +kernel
theorem dX1_mix_102 : decode cX1_mix 102 = .ok (.goto (-46), 3) := by decide +kernel
theorem dX1_mix_105 : decode cX1_mix 105 = .ok (.iload 6, 2) := by decide +kernel
theorem dX1_mix_107 : decode cX1_mix 107 = .ok (.ireturn, 1) := by decide +kernel
