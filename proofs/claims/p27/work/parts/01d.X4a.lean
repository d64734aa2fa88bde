theorem dX4_init_0 : decode cX4_init 0 = .ok (.aload_n 0, 1) := by decide +kernel
theorem dX4_init_1 : decode cX4_init 1 = .ok (.invokespecial 1, 3) := by decide +kernel
theorem dX4_init_4 : decode cX4_init 4 = .ok (.aload_n 0, 1) := by decide +kernel
theorem dX4_init_5 : decode cX4_init 5 = .ok (.iload_n 1, 1) := by decide +kernel
theorem dX4_init_6 : decode cX4_init 6 = .ok (.iconst 2, 1) := by decide +kernel
theorem dX4_init_7 : decode cX4_init 7 = .ok (.invokestatic 7, 3) := by decide +kernel
theorem dX4_init_10 : decode cX4_init 10 = .ok (.putfield 13, 3) := by decide +kernel
theorem dX4_init_13 : decode cX4_init 13 = .ok (.return_, 1) := by decide +kernel
theorem dX4_reduced_0 : decode cX4_reduced 0 = .ok (.iload_n 1, 1) := by decide +kernel
theorem dX4_reduced_1 : decode cX4_reduced 1 = .ok (.aload_n 0, 1) := by decide +kernel
theorem dX4_reduced_2 : decode cX4_reduced 2 = .ok (.getfield 13, 3) := by decide +kernel
theorem dX4_reduced_5 : decode cX4_reduced 5 = .ok (.irem, 1) := by decide +kernel
theorem dX4_reduced_6 : decode cX4_reduced 6 = .ok (.ireturn, 1) := by decide +kernel
theorem dX4_negative_0 : decode cX4_negative 0 = .ok (.iload_n 1, 1) := by decide +kernel
theorem dX4_negative_1 : decode cX4_negative 1 = .ok (.ifCond .ne 7, 3) := by decide +kernel
theorem dX4_negative_4 : decode cX4_negative 4 = .ok (.iconst 0, 1) := by decide +kernel
theorem dX4_negative_5 : decode cX4_negative 5 = .ok (.goto 9, 3) := by decide +kernel
theorem dX4_negative_8 : decode cX4_negative 8 = .ok (.aload_n 0, 1) := by decide +kernel
theorem dX4_negative_9 : decode cX4_negative 9 = .ok (.getfield 13, 3) := by decide +kernel
theorem dX4_negative_12 : decode cX4_negative 12 = .ok (.iload_n 1, 1) := by decide +kernel
theorem dX4_negative_13 : decode cX4_negative 13 = .ok (.isub, 1) := by decide +kernel
theorem dX4_negative_14 : decode cX4_negative 14 = .ok (.ireturn, 1) := by decide +kernel
theorem dX4_times_0 : decode cX4_times 0 = .ok (.iload_n 1, 1) := by decide +kernel
theorem dX4_times_1 : decode cX4_times 1 = .ok (.iload_n 2, 1) := by decide +kernel
theorem dX4_times_2 : decode cX4_times 2 = .ok (.imul, 1) := by decide +kernel
theorem dX4_times_3 : decode cX4_times 3 = .ok (.aload_n 0, 1) := by decide +kernel
theorem dX4_times_4 : decode cX4_times 4 = .ok (.getfield 13, 3) := by decide +kernel
theorem dX4_times_7 : decode cX4_times 7 = .ok (.irem, 1) := by decide +kernel
theorem dX4_times_8 : decode cX4_times 8 = .ok (.ireturn, 1) := by decide +kernel
theorem dX4_plusTimes_0 : decode cX4_plusTimes 0 = .ok (.iload_n 1, 1) := by decide +kernel
theorem dX4_plusTimes_1 : decode cX4_plusTimes 1 = .ok (.iload_n 2, 1) := by decide +kernel
theorem dX4_plusTimes_2 : decode cX4_plusTimes 2 = .ok (.iload_n 3, 1) := by decide +kernel
theorem dX4_plusTimes_3 : decode cX4_plusTimes 3 = .ok (.imul, 1) := by decide +kernel
theorem dX4_plusTimes_4 : decode cX4_plusTimes 4 = .ok (.iadd, 1) := by decide +kernel
theorem dX4_plusTimes_5 : decode cX4_plusTimes 5 = .ok (.aload_n 0, 1) := by decide +kernel
theorem dX4_plusTimes_6 : decode cX4_plusTimes 6 = .ok (.getfield 13, 3) := by decide +kernel
theorem dX4_plusTimes_9 : decode cX4_plusTimes 9 = .ok (.irem, 1) := by decide +kernel
theorem dX4_plusTimes_10 : decode cX4_plusTimes 10 = .ok (.ireturn, 1) := by decide +kernel
theorem dX4_inverse_0 : decode cX4_inverse 0 = .ok (.iconst 1, 1) := by decide +kernel
theorem dX4_inverse_1 : decode cX4_inverse 1 = .ok (.istore_n 2, 1) := by decide +kernel
theorem dX4_inverse_2 : decode cX4_inverse 2 = .ok (.iload_n 1, 1) := by decide +kernel
theorem dX4_inverse_3 : decode cX4_inverse 3 = .ok (.istore_n 3, 1) := by decide +kernel
theorem dX4_inverse_4 : decode cX4_inverse 4 = .ok (.aload_n 0, 1) := by decide +kernel
theorem dX4_inverse_5 : decode cX4_inverse 5 = .ok (.getfield 13, 3) := by decide +kernel
theorem dX4_inverse_8 : decode cX4_inverse 8 = .ok (.iconst 2, 1) := by decide +kernel
theorem dX4_inverse_9 : decode cX4_inverse 9 = .ok (.isub, 1) := by decide +kernel
theorem dX4_inverse_10 : decode cX4_inverse 10 = .ok (.istore 4, 2) := by decide +kernel
theorem dX4_inverse_12 : decode cX4_inverse 12 = .ok (.iload 4, 2) := by decide +kernel
theorem dX4_inverse_14 : decode cX4_inverse 14 = .ok (.ifCond .le 34, 3) := by decide +kernel
theorem dX4_inverse_17 : decode cX4_inverse 17 = .ok (.iload 4, 2) := by decide +kernel
theorem dX4_inverse_19 : decode cX4_inverse 19 = .ok (.iconst 1, 1) := by decide +kernel
theorem dX4_inverse_20 : decode cX4_inverse 20 = .ok (.iand, 1) := by decide +kernel
theorem dX4_inverse_21 : decode cX4_inverse 21 = .ok (.iconst 1, 1) := by decide +kernel
theorem dX4_inverse_22 : decode cX4_inverse 22 = .ok (.if_icmp .ne 10, 3) := by decide +kernel
theorem dX4_inverse_25 : decode cX4_inverse 25 = .ok (.aload_n 0, 1) := by decide +kernel
theorem dX4_inverse_26 : decode cX4_inverse 26 = .ok (.iload_n 2, 1) := by decide +kernel
theorem dX4_inverse_27 : decode cX4_inverse 27 = .ok (.iload_n 3, 1) := by decide +kernel
theorem dX4_inverse_28 : decode cX4_inverse 28 = .ok (.invokevirtual 19, 3) := by decide +kernel
theorem dX4_inverse_31 : decode cX4_inverse 31 = .ok (.istore_n 2, 1) := by decide +kernel
theorem dX4_inverse_32 : decode cX4_inverse 32 = .ok (.aload_n 0, 1) := by decide +kernel
theorem dX4_inverse_33 : decode cX4_inverse 33 = .ok (.iload_n 3, 1) := by decide +kernel
theorem dX4_inverse_34 : decode cX4_inverse 34 = .ok (.iload_n 3, 1) := by decide +kernel
theorem dX4_inverse_35 : decode cX4_inverse 35 = .ok (.invokevirtual 19, 3) := by decide +kernel
theorem dX4_inverse_38 : decode cX4_inverse 38 = .ok (.istore_n 3, 1) := by decide +kernel
theorem dX4_inverse_39 : decode cX4_inverse 39 = .ok (.iload 4, 2) := by decide +kernel
theorem dX4_inverse_41 : decode cX4_inverse 41 = .ok (.iconst 1, 1) := by decide +kernel
theorem dX4_inverse_42 : decode cX4_inverse 42 = .ok (.ishr, 1) := by decide +kernel
theorem dX4_inverse_43 : decode cX4_inverse 43 = .ok (.istore 4, 2) := by decide +kernel
theorem dX4_inverse_45 : decode cX4_inverse 45 = .ok (.goto (-33), 3) := by decide +kernel
theorem dX4_inverse_48 : decode cX4_inverse 48 = .ok (.iload_n 2, 1) := by decide +kernel
theorem dX4_inverse_49 : decode cX4_inverse 49 = .ok (.ireturn, 1) := by decide +kernel
