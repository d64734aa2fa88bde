theorem dX3_degree_0 : decode cX3_degree 0 = .ok (.iload_n 0, 1) := by decide +kernel
theorem dX3_degree_1 : decode cX3_degree 1 = .ok (.bipush 18, 2) := by decide +kernel
theorem dX3_degree_3 : decode cX3_degree 3 = .ok (.ishr, 1) := by decide +kernel
theorem dX3_degree_4 : decode cX3_degree 4 = .ok (.ireturn, 1) := by decide +kernel
theorem dX3_exponent_0 : decode cX3_exponent 0 = .ok (.iload_n 0, 1) := by decide +kernel
theorem dX3_exponent_1 : decode cX3_exponent 1 = .ok (.iconst (-1), 1) := by decide +kernel
theorem dX3_exponent_2 : decode cX3_exponent 2 = .ok (.ixor, 1) := by decide +kernel
theorem dX3_exponent_3 : decode cX3_exponent 3 = .ok (.ldc 13, 2) := by decide +kernel
theorem dX3_exponent_5 : decode cX3_exponent 5 = .ok (.iand, 1) := by decide +kernel
theorem dX3_exponent_6 : decode cX3_exponent 6 = .ok (.bipush 6, 2) := by decide +kernel
theorem dX3_exponent_8 : decode cX3_exponent 8 = .ok (.iconst 2, 1) := by decide +kernel
theorem dX3_exponent_9 : decode cX3_exponent 9 = .ok (.iload_n 1, 1) := by decide +kernel
theorem dX3_exponent_10 : decode cX3_exponent 10 = .ok (.isub, 1) := by decide +kernel
theorem dX3_exponent_11 : decode cX3_exponent 11 = .ok (.imul, 1) := by decide +kernel
theorem dX3_exponent_12 : decode cX3_exponent 12 = .ok (.ishr, 1) := by decide +kernel
theorem dX3_exponent_13 : decode cX3_exponent 13 = .ok (.bipush 63, 2) := by decide +kernel
theorem dX3_exponent_15 : decode cX3_exponent 15 = .ok (.iand, 1) := by decide +kernel
theorem dX3_exponent_16 : decode cX3_exponent 16 = .ok (.ireturn, 1) := by decide +kernel
theorem dX3_of_0 : decode cX3_of 0 = .ok (.iload_n 0, 1) := by decide +kernel
theorem dX3_of_1 : decode cX3_of 1 = .ok (.bipush 18, 2) := by decide +kernel
theorem dX3_of_3 : decode cX3_of 3 = .ok (.ishl, 1) := by decide +kernel
theorem dX3_of_4 : decode cX3_of 4 = .ok (.ldc 13, 2) := by decide +kernel
theorem dX3_of_6 : decode cX3_of 6 = .ok (.iadd, 1) := by decide +kernel
theorem dX3_of_7 : decode cX3_of 7 = .ok (.iload_n 1, 1) := by decide +kernel
theorem dX3_of_8 : decode cX3_of 8 = .ok (.bipush 12, 2) := by decide +kernel
theorem dX3_of_10 : decode cX3_of 10 = .ok (.ishl, 1) := by decide +kernel
theorem dX3_of_11 : decode cX3_of 11 = .ok (.iload_n 2, 1) := by decide +kernel
theorem dX3_of_12 : decode cX3_of 12 = .ok (.bipush 6, 2) := by decide +kernel
theorem dX3_of_14 : decode cX3_of 14 = .ok (.ishl, 1) := by decide +kernel
theorem dX3_of_15 : decode cX3_of 15 = .ok (.ior, 1) := by decide +kernel
theorem dX3_of_16 : decode cX3_of 16 = .ok (.iload_n 3, 1) := by decide +kernel
theorem dX3_of_17 : decode cX3_of 17 = .ok (.ior, 1) := by decide +kernel
theorem dX3_of_18 : decode cX3_of 18 = .ok (.isub, 1) := by decide +kernel
theorem dX3_of_19 : decode cX3_of 19 = .ok (.ireturn, 1) := by decide +kernel
theorem dX3_times_0 : decode cX3_times 0 = .ok (.iload_n 0, 1) := by decide +kernel
theorem dX3_times_1 : decode cX3_times 1 = .ok (.iload_n 1, 1) := by decide +kernel
theorem dX3_times_2 : decode cX3_times 2 = .ok (.iadd, 1) := by decide +kernel
theorem dX3_times_3 : decode cX3_times 3 = .ok (.ldc 13, 2) := by decide +kernel
theorem dX3_times_5 : decode cX3_times 5 = .ok (.isub, 1) := by decide +kernel
theorem dX3_times_6 : decode cX3_times 6 = .ok (.ireturn, 1) := by decide +kernel
theorem dX3_by_0 : decode cX3_by 0 = .ok (.iload_n 0, 1) := by decide +kernel
theorem dX3_by_1 : decode cX3_by 1 = .ok (.iload_n 1, 1) := by decide +kernel
theorem dX3_by_2 : decode cX3_by 2 = .ok (.isub, 1) := by decide +kernel
theorem dX3_by_3 : decode cX3_by 3 = .ok (.ldc 13, 2) := by decide +kernel
theorem dX3_by_5 : decode cX3_by 5 = .ok (.iadd, 1) := by decide +kernel
theorem dX3_by_6 : decode cX3_by 6 = .ok (.ireturn, 1) := by decide +kernel
theorem dX3_divides_0 : decode cX3_divides 0 = .ok (.iload_n 0, 1) := by decide +kernel
theorem dX3_divides_1 : decode cX3_divides 1 = .ok (.iconst 0, 1) := by decide +kernel
theorem dX3_divides_2 : decode cX3_divides 2 = .ok (.invokestatic 14, 3) := by decide +kernel
theorem dX3_divides_5 : decode cX3_divides 5 = .ok (.iload_n 1, 1) := by decide +kernel
theorem dX3_divides_6 : decode cX3_divides 6 = .ok (.iconst 0, 1) := by decide +kernel
theorem dX3_divides_7 : decode cX3_divides 7 = .ok (.invokestatic 14, 3) := by decide +kernel
theorem dX3_divides_10 : decode cX3_divides 10 = .ok (.if_icmp .gt 33, 3) := by decide +kernel
theorem dX3_divides_13 : decode cX3_divides 13 = .ok (.iload_n 0, 1) := by decide +kernel
theorem dX3_divides_14 : decode cX3_divides 14 = .ok (.iconst 1, 1) := by decide +kernel
theorem dX3_divides_15 : decode cX3_divides 15 = .ok (.invokestatic 14, 3) := by decide +kernel
theorem dX3_divides_18 : decode cX3_divides 18 = .ok (.iload_n 1, 1) := by decide +kernel
theorem dX3_divides_19 : decode cX3_divides 19 = .ok (.iconst 1, 1) := by decide +kernel
theorem dX3_divides_20 : decode cX3_divides 20 = .ok (.invokestatic 14, 3) := by decide +kernel
theorem dX3_divides_23 : decode cX3_divides 23 = .ok (.if_icmp .gt 20, 3) := by decide +kernel
theorem dX3_divides_26 : decode cX3_divides 26 = .ok (.iload_n 0, 1) := by decide +kernel
theorem dX3_divides_27 : decode cX3_divides 27 = .ok (.iconst 2, 1) := by decide +kernel
theorem dX3_divides_28 : decode cX3_divides 28 = .ok (.invokestatic 14, 3) := by decide +kernel
theorem dX3_divides_31 : decode cX3_divides 31 = .ok (.iload_n 1, 1) := by decide +kernel
theorem dX3_divides_32 : decode cX3_divides 32 = .ok (.iconst 2, 1) := by decide +kernel
theorem dX3_divides_33 : decode cX3_divides 33 = .ok (.invokestatic 14, 3) := by decide +kernel
theorem dX3_divides_36 : decode cX3_divides 36 = .ok (.if_icmp .gt 7, 3) := by decide +kernel
theorem dX3_divides_39 : decode cX3_divides 39 = .ok (.iconst 1, 1) := by decide +kernel
theorem dX3_divides_40 : decode cX3_divides 40 = .ok (.goto 4, 3) := by decide +kernel
theorem dX3_divides_43 : decode cX3_divides 43 = .ok (.iconst 0, 1) := by decide +kernel
theorem dX3_divides_44 : decode cX3_divides 44 = .ok (.ireturn, 1) := by decide +kernel
theorem dX3_isTooHigh_0 : decode cX3_isTooHigh 0 = .ok (.iload_n 0, 1) := by decide +kernel
theorem dX3_isTooHigh_1 : decode cX3_isTooHigh 1 = .ok (.iconst (-1), 1) := by decide +kernel
theorem dX3_isTooHigh_2 : decode cX3_isTooHigh 2 = .ok (.ixor, 1) := by decide +kernel
theorem dX3_isTooHigh_3 : decode cX3_isTooHigh 3 = .ok (.ldc 13, 2) := by decide +kernel
theorem dX3_isTooHigh_5 : decode cX3_isTooHigh 5 = .ok (.iand, 1) := by decide +kernel
theorem dX3_isTooHigh_6 : decode cX3_isTooHigh 6 = .ok (.sipush 4161, 3) := by decide +kernel
theorem dX3_isTooHigh_9 : decode cX3_isTooHigh 9 = .ok (.iadd, 1) := by decide +kernel
theorem dX3_isTooHigh_10 : decode cX3_isTooHigh 10 = .ok (.ldc 18, 2) := by decide +kernel
theorem dX3_isTooHigh_12 : decode cX3_isTooHigh 12 = .ok (.iand, 1) := by decide +kernel
theorem dX3_isTooHigh_13 : decode cX3_isTooHigh 13 = .ok (.ifCond .eq 7, 3) := by decide +kernel
theorem dX3_isTooHigh_16 : decode cX3_isTooHigh 16 = .ok (.iconst 1, 1) := by decide +kernel
theorem dX3_isTooHigh_17 : decode cX3_isTooHigh 17 = .ok (.goto 4, 3) := by decide +kernel
theorem dX3_isTooHigh_20 : decode cX3_isTooHigh 20 = .ok (.iconst 0, 1) := by decide +kernel
theorem dX3_isTooHigh_21 : decode cX3_isTooHigh 21 = .ok (.ireturn, 1) := by decide +kernel
