theorem dX0_leftOf_0 : decode cX0_leftOf 0 = .ok (.iload_n 0, 1) := by decide +kernel
theorem dX0_leftOf_1 : decode cX0_leftOf 1 = .ok (.iconst 3, 1) := by decide +kernel
theorem dX0_leftOf_2 : decode cX0_leftOf 2 = .ok (.iload_n 1, 1) := by decide +kernel
theorem dX0_leftOf_3 : decode cX0_leftOf 3 = .ok (.imul, 1) := by decide +kernel
theorem dX0_leftOf_4 : decode cX0_leftOf 4 = .ok (.ishr, 1) := by decide +kernel
theorem dX0_leftOf_5 : decode cX0_leftOf 5 = .ok (.bipush 7, 2) := by decide +kernel
theorem dX0_leftOf_7 : decode cX0_leftOf 7 = .ok (.iand, 1) := by decide +kernel
theorem dX0_leftOf_8 : decode cX0_leftOf 8 = .ok (.ireturn, 1) := by decide +kernel
theorem dX0_with_0 : decode cX0_with 0 = .ok (.iload_n 0, 1) := by decide +kernel
theorem dX0_with_1 : decode cX0_with 1 = .ok (.bipush 7, 2) := by decide +kernel
theorem dX0_with_3 : decode cX0_with 3 = .ok (.iconst 3, 1) := by decide +kernel
theorem dX0_with_4 : decode cX0_with 4 = .ok (.iload_n 1, 1) := by decide +kernel
theorem dX0_with_5 : decode cX0_with 5 = .ok (.imul, 1) := by decide +kernel
theorem dX0_with_6 : decode cX0_with 6 = .ok (.ishl, 1) := by decide +kernel
theorem dX0_with_7 : decode cX0_with 7 = .ok (.iconst (-1), 1) := by decide +kernel
theorem dX0_with_8 : decode cX0_with 8 = .ok (.ixor, 1) := by decide +kernel
theorem dX0_with_9 : decode cX0_with 9 = .ok (.iand, 1) := by decide +kernel
theorem dX0_with_10 : decode cX0_with 10 = .ok (.iload_n 2, 1) := by decide +kernel
theorem dX0_with_11 : decode cX0_with 11 = .ok (.iconst 3, 1) := by decide +kernel
theorem dX0_with_12 : decode cX0_with 12 = .ok (.iload_n 1, 1) := by decide +kernel
theorem dX0_with_13 : decode cX0_with 13 = .ok (.imul, 1) := by decide +kernel
theorem dX0_with_14 : decode cX0_with 14 = .ok (.ishl, 1) := by decide +kernel
theorem dX0_with_15 : decode cX0_with 15 = .ok (.ior, 1) := by decide +kernel
theorem dX0_with_16 : decode cX0_with 16 = .ok (.ireturn, 1) := by decide +kernel
theorem dX0_passed_0 : decode cX0_passed 0 = .ok (.iconst 0, 1) := by decide +kernel
theorem dX0_passed_1 : decode cX0_passed 1 = .ok (.istore_n 2, 1) := by decide +kernel
theorem dX0_passed_2 : decode cX0_passed 2 = .ok (.iconst 0, 1) := by decide +kernel
theorem dX0_passed_3 : decode cX0_passed 3 = .ok (.istore_n 3, 1) := by decide +kernel
theorem dX0_passed_4 : decode cX0_passed 4 = .ok (.iload_n 3, 1) := by decide +kernel
theorem dX0_passed_5 : decode cX0_passed 5 = .ok (.iconst 5, 1) := by decide +kernel
theorem dX0_passed_6 : decode cX0_passed 6 = .ok (.if_icmp .ge 27, 3) := by decide +kernel
theorem dX0_passed_9 : decode cX0_passed 9 = .ok (.iload_n 2, 1) := by decide +kernel
theorem dX0_passed_10 : decode cX0_passed 10 = .ok (.iconst 0, 1) := by decide +kernel
theorem dX0_passed_11 : decode cX0_passed 11 = .ok (.iload_n 0, 1) := by decide +kernel
theorem dX0_passed_12 : decode cX0_passed 12 = .ok (.iload_n 3, 1) := by decide +kernel
theorem dX0_passed_13 : decode cX0_passed 13 = .ok (.invokestatic 9, 3) := by decide +kernel
theorem dX0_passed_16 : decode cX0_passed 16 = .ok (.iload_n 1, 1) := by decide +kernel
theorem dX0_passed_17 : decode cX0_passed 17 = .ok (.isub, 1) := by decide +kernel
theorem dX0_passed_18 : decode cX0_passed 18 = .ok (.invokestatic 15, 3) := by decide +kernel
theorem dX0_passed_21 : decode cX0_passed 21 = .ok (.iconst 3, 1) := by decide +kernel
theorem dX0_passed_22 : decode cX0_passed 22 = .ok (.iload_n 3, 1) := by decide +kernel
theorem dX0_passed_23 : decode cX0_passed 23 = .ok (.imul, 1) := by decide +kernel
theorem dX0_passed_24 : decode cX0_passed 24 = .ok (.ishl, 1) := by decide +kernel
theorem dX0_passed_25 : decode cX0_passed 25 = .ok (.ior, 1) := by decide +kernel
theorem dX0_passed_26 : decode cX0_passed 26 = .ok (.istore_n 2, 1) := by decide +kernel
theorem dX0_passed_27 : decode cX0_passed 27 = .ok (.iinc 3 1, 3) := by decide +kernel
theorem dX0_passed_30 : decode cX0_passed 30 = .ok (.goto (-26), 3) := by decide +kernel
theorem dX0_passed_33 : decode cX0_passed 33 = .ok (.iload_n 2, 1) := by decide +kernel
theorem dX0_passed_34 : decode cX0_passed 34 = .ok (.ireturn, 1) := by decide +kernel
theorem dX0_standing_0 : decode cX0_standing 0 = .ok (.iconst 0, 1) := by decide +kernel
theorem dX0_standing_1 : decode cX0_standing 1 = .ok (.istore_n 1, 1) := by decide +kernel
theorem dX0_standing_2 : decode cX0_standing 2 = .ok (.iconst 0, 1) := by decide +kernel
theorem dX0_standing_3 : decode cX0_standing 3 = .ok (.istore_n 2, 1) := by decide +kernel
theorem dX0_standing_4 : decode cX0_standing 4 = .ok (.iload_n 2, 1) := by decide +kernel
theorem dX0_standing_5 : decode cX0_standing 5 = .ok (.iconst 5, 1) := by decide +kernel
theorem dX0_standing_6 : decode cX0_standing 6 = .ok (.if_icmp .ge 20, 3) := by decide +kernel
theorem dX0_standing_9 : decode cX0_standing 9 = .ok (.iload_n 0, 1) := by decide +kernel
theorem dX0_standing_10 : decode cX0_standing 10 = .ok (.iload_n 2, 1) := by decide +kernel
theorem dX0_standing_11 : decode cX0_standing 11 = .ok (.invokestatic 9, 3) := by decide +kernel
theorem dX0_standing_14 : decode cX0_standing 14 = .ok (.ifCond .le 6, 3) := by decide +kernel
theorem dX0_standing_17 : decode cX0_standing 17 = .ok (.iinc 1 1, 3) := by decide +kernel
theorem dX0_standing_20 : decode cX0_standing 20 = .ok (.iinc 2 1, 3) := by decide +kernel
theorem dX0_standing_23 : decode cX0_standing 23 = .ok (.goto (-19), 3) := by decide +kernel
theorem dX0_standing_26 : decode cX0_standing 26 = .ok (.iload_n 1, 1) := by decide +kernel
theorem dX0_standing_27 : decode cX0_standing 27 = .ok (.ireturn, 1) := by decide +kernel
theorem dX0_soonest_0 : decode cX0_soonest 0 = .ok (.bipush 6, 2) := by decide +kernel
theorem dX0_soonest_2 : decode cX0_soonest 2 = .ok (.istore_n 2, 1) := by decide +kernel
theorem dX0_soonest_3 : decode cX0_soonest 3 = .ok (.iconst 0, 1) := by decide +kernel
theorem dX0_soonest_4 : decode cX0_soonest 4 = .ok (.istore_n 3, 1) := by decide +kernel
theorem dX0_soonest_5 : decode cX0_soonest 5 = .ok (.iload_n 3, 1) := by decide +kernel
theorem dX0_soonest_6 : decode cX0_soonest 6 = .ok (.aload_n 0, 1) := by decide +kernel
theorem dX0_soonest_7 : decode cX0_soonest 7 = .ok (.getfield 20, 3) := by decide +kernel
theorem dX0_soonest_10 : decode cX0_soonest 10 = .ok (.if_icmp .ge 19, 3) := by decide +kernel
theorem dX0_soonest_13 : decode cX0_soonest 13 = .ok (.iload_n 2, 1) := by decide +kernel
theorem dX0_soonest_14 : decode cX0_soonest 14 = .ok (.iload_n 1, 1) := by decide +kernel
theorem dX0_soonest_15 : decode cX0_soonest 15 = .ok (.iload_n 3, 1) := by decide +kernel
theorem dX0_soonest_16 : decode cX0_soonest 16 = .ok (.invokestatic 9, 3) := by decide +kernel
theorem dX0_soonest_19 : decode cX0_soonest 19 = .ok (.invokestatic 26, 3) := by decide +kernel
theorem dX0_soonest_22 : decode cX0_soonest 22 = .ok (.istore_n 2, 1) := by decide +kernel
theorem dX0_soonest_23 : decode cX0_soonest 23 = .ok (.iinc 3 1, 3) := by decide +kernel
theorem dX0_soonest_26 : decode cX0_soonest 26 = .ok (.goto (-21), 3) := by decide +kernel
theorem dX0_soonest_29 : decode cX0_soonest 29 = .ok (.iload_n 2, 1) := by decide +kernel
theorem dX0_soonest_30 : decode cX0_soonest 30 = .ok (.ireturn, 1) := by decide +kernel
theorem dX0_behindRun_0 : decode cX0_behindRun 0 = .ok (.aload_n 0, 1) := by decide +kernel
theorem dX0_behindRun_1 : decode cX0_behindRun 1 = .ok (.iload_n 1, 1) := by decide +kernel
theorem dX0_behindRun_2 : decode cX0_behindRun 2 = .ok (.aload_n 0, 1) := by decide +kernel
theorem dX0_behindRun_3 : decode cX0_behindRun 3 = .ok (.getfield 29, 3) := by decide +kernel
theorem dX0_behindRun_6 : decode cX0_behindRun 6 = .ok (.iload_n 3, 1) := by decide +kernel
theorem dX0_behindRun_7 : decode cX0_behindRun 7 = .ok (.iaload, 1) := by decide +kernel
theorem dX0_behindRun_8 : decode cX0_behindRun 8 = .ok (.invokevirtual 33, 3) := by decide +kernel
theorem dX0_behindRun_11 : decode cX0_behindRun 11 = .ok (.istore 4, 2) := by decide +kernel
theorem dX0_behindRun_13 : decode cX0_behindRun 13 = .ok (.iload_n 2, 1) := by decide +kernel
theorem dX0_behindRun_14 : decode cX0_behindRun 14 = .ok (.iload 4, 2) := by decide +kernel
theorem dX0_behindRun_16 : decode cX0_behindRun 16 = .ok (.iconst 1, 1) := by decide +kernel
theorem dX0_behindRun_17 : decode cX0_behindRun 17 = .ok (.iadd, 1) := by decide +kernel
theorem dX0_behindRun_18 : decode cX0_behindRun 18 = .ok (.invokestatic 36, 3) := by decide +kernel
theorem dX0_behindRun_21 : decode cX0_behindRun 21 = .ok (.istore 5, 2) := by decide +kernel
theorem dX0_behindRun_23 : decode cX0_behindRun 23 = .ok (.iload_n 2, 1) := by decide +kernel
theorem dX0_behindRun_24 : decode cX0_behindRun 24 = .ok (.iload_n 3, 1) := by decide +kernel
theorem dX0_behindRun_25 : decode cX0_behindRun 25 = .ok (.invokestatic 9, 3) := by decide +kernel
theorem dX0_behindRun_28 : decode cX0_behindRun 28 = .ok (.iload 4, 2) := by decide +kernel
theorem dX0_behindRun_30 : decode cX0_behindRun 30 = .ok (.if_icmp .le 18, 3) := by decide +kernel
theorem dX0_behindRun_33 : decode cX0_behindRun 33 = .ok (.iload 5, 2) := by decide +kernel
theorem dX0_behindRun_35 : decode cX0_behindRun 35 = .ok (.iload_n 3, 1) := by decide +kernel
theorem dX0_behindRun_36 : decode cX0_behindRun 36 = .ok (.aload_n 0, 1) := by decide +kernel
theorem dX0_behindRun_37 : decode cX0_behindRun 37 = .ok (.getfield 39, 3) := by decide +kernel
theorem dX0_behindRun_40 : decode cX0_behindRun 40 = .ok (.iload_n 3, 1) := by decide +kernel
theorem dX0_behindRun_41 : decode cX0_behindRun 41 = .ok (.iaload, 1) := by decide +kernel
theorem dX0_behindRun_42 : decode cX0_behindRun 42 = .ok (.invokestatic 42, 3) := by decide +kernel
theorem dX0_behindRun_45 : decode cX0_behindRun 45 = .ok (.goto 5, 3) := by decide +kernel
theorem dX0_behindRun_48 : decode cX0_behindRun 48 = .ok (.iload 5, 2) := by decide +kernel
theorem dX0_behindRun_50 : decode cX0_behindRun 50 = .ok (.ireturn, 1) := by decide +kernel
theorem dX0_isKept_0 : decode cX0_isKept 0 = .ok (.aload_n 0, 1) := by decide +kernel
theorem dX0_isKept_1 : decode cX0_isKept 1 = .ok (.iload_n 1, 1) := by decide +kernel
theorem dX0_isKept_2 : decode cX0_isKept 2 = .ok (.aload_n 0, 1) := by decide +kernel
theorem dX0_isKept_3 : decode cX0_isKept 3 = .ok (.getfield 29, 3) := by decide +kernel
theorem dX0_isKept_6 : decode cX0_isKept 6 = .ok (.iload_n 3, 1) := by decide +kernel
theorem dX0_isKept_7 : decode cX0_isKept 7 = .ok (.iaload, 1) := by decide +kernel
theorem dX0_isKept_8 : decode cX0_isKept 8 = .ok (.invokevirtual 33, 3) := by decide +kernel
theorem dX0_isKept_11 : decode cX0_isKept 11 = .ok (.istore 4, 2) := by decide +kernel
theorem dX0_isKept_13 : decode cX0_isKept 13 = .ok (.iconst 0, 1) := by decide +kernel
theorem dX0_isKept_14 : decode cX0_isKept 14 = .ok (.istore 5, 2) := by decide +kernel
theorem dX0_isKept_16 : decode cX0_isKept 16 = .ok (.iload 5, 2) := by decide +kernel
theorem dX0_isKept_18 : decode cX0_isKept 18 = .ok (.aload_n 0, 1) := by decide +kernel
theorem dX0_isKept_19 : decode cX0_isKept 19 = .ok (.getfield 20, 3) := by decide +kernel
theorem dX0_isKept_22 : decode cX0_isKept 22 = .ok (.if_icmp .ge 35, 3) := by decide +kernel
theorem dX0_isKept_25 : decode cX0_isKept 25 = .ok (.iload_n 2, 1) := by decide +kernel
theorem dX0_isKept_26 : decode cX0_isKept 26 = .ok (.iload 5, 2) := by decide +kernel
theorem dX0_isKept_28 : decode cX0_isKept 28 = .ok (.invokestatic 9, 3) := by decide +kernel
theorem dX0_isKept_31 : decode cX0_isKept 31 = .ok (.iload 5, 2) := by decide +kernel
theorem dX0_isKept_33 : decode cX0_isKept 33 = .ok (.iload_n 3, 1) := by decide +kernel
theorem dX0_isKept_34 : decode cX0_isKept 34 = .ok (.if_icmp .ne 8, 3) := by decide +kernel
theorem dX0_isKept_37 : decode cX0_isKept 37 = .ok (.iload 4, 2) := by decide +kernel
theorem dX0_isKept_39 : decode cX0_isKept 39 = .ok (.goto 7, 3) := by decide +kernel
theorem dX0_isKept_42 : decode cX0_isKept 42 = .ok (.iload 4, 2) := by decide +kernel
theorem dX0_isKept_44 : decode cX0_isKept 44 = .ok (.iconst 1, 1) := by decide +kernel
theorem dX0_isKept_45 : decode cX0_isKept 45 = .ok (.iadd, 1) := by decide +kernel
theorem dX0_isKept_46 : decode cX0_isKept 46 = .ok (.if_icmp .gt 5, 3) := by decide +kernel
theorem dX0_isKept_49 : decode cX0_isKept 49 = .ok (.iconst 0, 1) := by decide +kernel
theorem dX0_isKept_50 : decode cX0_isKept 50 = .ok (.ireturn, 1) := by decide +kernel
theorem dX0_isKept_51 : decode cX0_isKept 51 = .ok (.iinc 5 1, 3) := by decide +kernel
theorem dX0_isKept_54 : decode cX0_isKept 54 = .ok (.goto (-38), 3) := by decide +kernel
theorem dX0_isKept_57 : decode cX0_isKept 57 = .ok (.iconst 1, 1) := by decide +kernel
theorem dX0_isKept_58 : decode cX0_isKept 58 = .ok (.ireturn, 1) := by decide +kernel
theorem dX0_inRow_0 : decode cX0_inRow 0 = .ok (.aload_n 0, 1) := by decide +kernel
theorem dX0_inRow_1 : decode cX0_inRow 1 = .ok (.getfield 20, 3) := by decide +kernel
theorem dX0_inRow_4 : decode cX0_inRow 4 = .ok (.ifCond .ne 5, 3) := by decide +kernel
theorem dX0_inRow_7 : decode cX0_inRow 7 = .ok (.iconst 0, 1) := by decide +kernel
theorem dX0_inRow_8 : decode cX0_inRow 8 = .ok (.ireturn, 1) := by decide +kernel
theorem dX0_inRow_9 : decode cX0_inRow 9 = .ok (.aload_n 0, 1) := by decide +kernel
theorem dX0_inRow_10 : decode cX0_inRow 10 = .ok (.getfield 46, 3) := by decide +kernel
theorem dX0_inRow_13 : decode cX0_inRow 13 = .ok (.istore_n 1, 1) := by decide +kernel
theorem dX0_inRow_14 : decode cX0_inRow 14 = .ok (.aload_n 0, 1) := by decide +kernel
theorem dX0_inRow_15 : decode cX0_inRow 15 = .ok (.invokevirtual 49, 3) := by decide +kernel
theorem dX0_inRow_18 : decode cX0_inRow 18 = .ok (.istore_n 2, 1) := by decide +kernel
theorem dX0_inRow_19 : decode cX0_inRow 19 = .ok (.iconst 0, 1) := by decide +kernel
theorem dX0_inRow_20 : decode cX0_inRow 20 = .ok (.istore_n 3, 1) := by decide +kernel
theorem dX0_inRow_21 : decode cX0_inRow 21 = .ok (.iload_n 3, 1) := by decide +kernel
theorem dX0_inRow_22 : decode cX0_inRow 22 = .ok (.bipush 99, 2) := by decide +kernel
theorem dX0_inRow_24 : decode cX0_inRow 24 = .ok (.if_icmp .ge 47, 3) := by decide +kernel
theorem dX0_inRow_27 : decode cX0_inRow 27 = .ok (.iload_n 3, 1) := by decide +kernel
theorem dX0_inRow_28 : decode cX0_inRow 28 = .ok (.aload_n 0, 1) := by decide +kernel
theorem dX0_inRow_29 : decode cX0_inRow 29 = .ok (.getfield 20, 3) := by decide +kernel
theorem dX0_inRow_32 : decode cX0_inRow 32 = .ok (.irem, 1) := by decide +kernel
theorem dX0_inRow_33 : decode cX0_inRow 33 = .ok (.istore 4, 2) := by decide +kernel
theorem dX0_inRow_35 : decode cX0_inRow 35 = .ok (.aload_n 0, 1) := by decide +kernel
theorem dX0_inRow_36 : decode cX0_inRow 36 = .ok (.iload_n 1, 1) := by decide +kernel
theorem dX0_inRow_37 : decode cX0_inRow 37 = .ok (.iload_n 2, 1) := by decide +kernel
theorem dX0_inRow_38 : decode cX0_inRow 38 = .ok (.iload 4, 2) := by decide +kernel
theorem dX0_inRow_40 : decode cX0_inRow 40 = .ok (.invokestatic 53, 3) := by decide +kernel
theorem dX0_inRow_43 : decode cX0_inRow 43 = .ok (.ifCond .ne 5, 3) := by decide +kernel
theorem dX0_inRow_46 : decode cX0_inRow 46 = .ok (.iload_n 3, 1) := by decide +kernel
theorem dX0_inRow_47 : decode cX0_inRow 47 = .ok (.ireturn, 1) := by decide +kernel
theorem dX0_inRow_48 : decode cX0_inRow 48 = .ok (.aload_n 0, 1) := by decide +kernel
theorem dX0_inRow_49 : decode cX0_inRow 49 = .ok (.iload_n 1, 1) := by decide +kernel
theorem dX0_inRow_50 : decode cX0_inRow 50 = .ok (.iload_n 2, 1) := by decide +kernel
theorem dX0_inRow_51 : decode cX0_inRow 51 = .ok (.iload 4, 2) := by decide +kernel
theorem dX0_inRow_53 : decode cX0_inRow 53 = .ok (.invokestatic 57, 3) := by decide +kernel
theorem dX0_inRow_56 : decode cX0_inRow 56 = .ok (.istore_n 2, 1) := by decide +kernel
theorem dX0_inRow_57 : decode cX0_inRow 57 = .ok (.aload_n 0, 1) := by decide +kernel
theorem dX0_inRow_58 : decode cX0_inRow 58 = .ok (.getfield 29, 3) := by decide +kernel
theorem dX0_inRow_61 : decode cX0_inRow 61 = .ok (.iload 4, 2) := by decide +kernel
theorem dX0_inRow_63 : decode cX0_inRow 63 = .ok (.iaload, 1) := by decide +kernel
theorem dX0_inRow_64 : decode cX0_inRow 64 = .ok (.istore_n 1, 1) := by decide +kernel
theorem dX0_inRow_65 : decode cX0_inRow 65 = .ok (.iinc 3 1, 3) := by decide +kernel
theorem dX0_inRow_68 : decode cX0_inRow 68 = .ok (.goto (-47), 3) := by decide +kernel
theorem dX0_inRow_71 : decode cX0_inRow 71 = .ok (.bipush 99, 2) := by decide +kernel
theorem dX0_inRow_73 : decode cX0_inRow 73 = .ok (.ireturn, 1) := by decide +kernel
theorem dX1_valueOf_0 : decode cX1_valueOf 0 = .ok (.iload_n 0, 1) := by decide +kernel
theorem dX1_valueOf_1 : decode cX1_valueOf 1 = .ok (.bipush 8, 2) := by decide +kernel
theorem dX1_valueOf_3 : decode cX1_valueOf 3 = .ok (.idiv, 1) := by decide +kernel
theorem dX1_valueOf_4 : decode cX1_valueOf 4 = .ok (.ireturn, 1) := by decide +kernel
theorem dX1_choiceOf_0 : decode cX1_choiceOf 0 = .ok (.iconst 5, 1) := by decide +kernel
theorem dX1_choiceOf_1 : decode cX1_choiceOf 1 = .ok (.iload_n 0, 1) := by decide +kernel
theorem dX1_choiceOf_2 : decode cX1_choiceOf 2 = .ok (.bipush 8, 2) := by decide +kernel
theorem dX1_choiceOf_4 : decode cX1_choiceOf 4 = .ok (.irem, 1) := by decide +kernel
theorem dX1_choiceOf_5 : decode cX1_choiceOf 5 = .ok (.isub, 1) := by decide +kernel
theorem dX1_choiceOf_6 : decode cX1_choiceOf 6 = .ok (.ireturn, 1) := by decide +kernel
theorem dX1_rated_0 : decode cX1_rated 0 = .ok (.iload_n 0, 1) := by decide +kernel
theorem dX1_rated_1 : decode cX1_rated 1 = .ok (.bipush 8, 2) := by decide +kernel
theorem dX1_rated_3 : decode cX1_rated 3 = .ok (.imul, 1) := by decide +kernel
theorem dX1_rated_4 : decode cX1_rated 4 = .ok (.iconst 5, 1) := by decide +kernel
theorem dX1_rated_5 : decode cX1_rated 5 = .ok (.iadd, 1) := by decide +kernel
theorem dX1_rated_6 : decode cX1_rated 6 = .ok (.iload_n 1, 1) := by decide +kernel
theorem dX1_rated_7 : decode cX1_rated 7 = .ok (.isub, 1) := by decide +kernel
theorem dX1_rated_8 : decode cX1_rated 8 = .ok (.ireturn, 1) := by decide +kernel
theorem dX1_saving_0 : decode cX1_saving 0 = .ok (.aload_n 0, 1) := by decide +kernel
theorem dX1_saving_1 : decode cX1_saving 1 = .ok (.aload_n 0, 1) := by decide +kernel
theorem dX1_saving_2 : decode cX1_saving 2 = .ok (.getfield 11, 3) := by decide +kernel
theorem dX1_saving_5 : decode cX1_saving 5 = .ok (.aload_n 0, 1) := by decide +kernel
theorem dX1_saving_6 : decode cX1_saving 6 = .ok (.invokevirtual 17, 3) := by decide +kernel
theorem dX1_saving_9 : decode cX1_saving 9 = .ok (.iload_n 1, 1) := by decide +kernel
theorem dX1_saving_10 : decode cX1_saving 10 = .ok (.bipush 6, 2) := by decide +kernel
theorem dX1_saving_12 : decode cX1_saving 12 = .ok (.invokestatic 21, 3) := by decide +kernel
theorem dX1_saving_15 : decode cX1_saving 15 = .ok (.invokestatic 27, 3) := by decide +kernel
theorem dX1_saving_18 : decode cX1_saving 18 = .ok (.ireturn, 1) := by decide +kernel
theorem dX1_duelling_0 : decode cX1_duelling 0 = .ok (.aload_n 0, 1) := by decide +kernel
theorem dX1_duelling_1 : decode cX1_duelling 1 = .ok (.aload_n 0, 1) := by decide +kernel
theorem dX1_duelling_2 : decode cX1_duelling 2 = .ok (.getfield 11, 3) := by decide +kernel
theorem dX1_duelling_5 : decode cX1_duelling 5 = .ok (.aload_n 0, 1) := by decide +kernel
theorem dX1_duelling_6 : decode cX1_duelling 6 = .ok (.invokevirtual 17, 3) := by decide +kernel
theorem dX1_duelling_9 : decode cX1_duelling 9 = .ok (.iload_n 1, 1) := by decide +kernel
theorem dX1_duelling_10 : decode cX1_duelling 10 = .ok (.iconst 3, 1) := by decide +kernel
theorem dX1_duelling_11 : decode cX1_duelling 11 = .ok (.invokestatic 21, 3) := by decide +kernel
theorem dX1_duelling_14 : decode cX1_duelling 14 = .ok (.invokestatic 31, 3) := by decide +kernel
theorem dX1_duelling_17 : decode cX1_duelling 17 = .ok (.ireturn, 1) := by decide +kernel
theorem dX1_bestSaving_0 : decode cX1_bestSaving 0 = .ok (.iload_n 2, 1) := by decide +kernel
theorem dX1_bestSaving_1 : decode cX1_bestSaving 1 = .ok (.invokestatic 34, 3) := by decide +kernel
theorem dX1_bestSaving_4 : decode cX1_bestSaving 4 = .ok (.istore 4, 2) := by decide +kernel
theorem dX1_bestSaving_6 : decode cX1_bestSaving 6 = .ok (.iload_n 3, 1) := by decide +kernel
theorem dX1_bestSaving_7 : decode cX1_bestSaving 7 = .ok (.ifCond .le 8, 3) := by decide +kernel
theorem dX1_bestSaving_10 : decode cX1_bestSaving 10 = .ok (.iload 4, 2) := by decide +kernel
theorem dX1_bestSaving_12 : decode cX1_bestSaving 12 = .ok (.ifCond .ne 10, 3) := by decide +kernel
theorem dX1_bestSaving_15 : decode cX1_bestSaving 15 = .ok (.iload 4, 2) := by decide +kernel
theorem dX1_bestSaving_17 : decode cX1_bestSaving 17 = .ok (.iconst 5, 1) := by decide +kernel
theorem dX1_bestSaving_18 : decode cX1_bestSaving 18 = .ok (.invokestatic 40, 3) := by decide +kernel
theorem dX1_bestSaving_21 : decode cX1_bestSaving 21 = .ok (.ireturn, 1) := by decide +kernel
theorem dX1_bestSaving_22 : decode cX1_bestSaving 22 = .ok (.iconst (-1), 1) := by decide +kernel
theorem dX1_bestSaving_23 : decode cX1_bestSaving 23 = .ok (.istore 5, 2) := by decide +kernel
theorem dX1_bestSaving_25 : decode cX1_bestSaving 25 = .ok (.iconst 0, 1) := by decide +kernel
theorem dX1_bestSaving_26 : decode cX1_bestSaving 26 = .ok (.istore 6, 2) := by decide +kernel
theorem dX1_bestSaving_28 : decode cX1_bestSaving 28 = .ok (.iload 6, 2) := by decide +kernel
theorem dX1_bestSaving_30 : decode cX1_bestSaving 30 = .ok (.aload_n 0, 1) := by decide +kernel
theorem dX1_bestSaving_31 : decode cX1_bestSaving 31 = .ok (.getfield 43, 3) := by decide +kernel
theorem dX1_bestSaving_34 : decode cX1_bestSaving 34 = .ok (.if_icmp .ge 96, 3) := by decide +kernel
theorem dX1_bestSaving_37 : decode cX1_bestSaving 37 = .ok (.iload 5, 2) := by decide +kernel
theorem dX1_bestSaving_39 : decode cX1_bestSaving 39 = .ok (.invokestatic 46, 3) := by decide +kernel
theorem dX1_bestSaving_42 : decode cX1_bestSaving 42 = .ok (.iload 4, 2) := by decide +kernel
theorem dX1_bestSaving_44 : decode cX1_bestSaving 44 = .ok (.if_icmp .ge 86, 3) := by decide +kernel
theorem dX1_bestSaving_47 : decode cX1_bestSaving 47 = .ok (.aload_n 0, 1) := by decide +kernel
theorem dX1_bestSaving_48 : decode cX1_bestSaving 48 = .ok (.iload_n 1, 1) := by decide +kernel
theorem dX1_bestSaving_49 : decode cX1_bestSaving 49 = .ok (.aload_n 0, 1) := by decide +kernel
theorem dX1_bestSaving_50 : decode cX1_bestSaving 50 = .ok (.getfield 49, 3) := by decide +kernel
theorem dX1_bestSaving_53 : decode cX1_bestSaving 53 = .ok (.iload 6, 2) := by decide +kernel
theorem dX1_bestSaving_55 : decode cX1_bestSaving 55 = .ok (.iaload, 1) := by decide +kernel
theorem dX1_bestSaving_56 : decode cX1_bestSaving 56 = .ok (.invokevirtual 53, 3) := by decide +kernel
theorem dX1_bestSaving_59 : decode cX1_bestSaving 59 = .ok (.iconst 1, 1) := by decide +kernel
theorem dX1_bestSaving_60 : decode cX1_bestSaving 60 = .ok (.iadd, 1) := by decide +kernel
theorem dX1_bestSaving_61 : decode cX1_bestSaving 61 = .ok (.istore 7, 2) := by decide +kernel
theorem dX1_bestSaving_63 : decode cX1_bestSaving 63 = .ok (.iload_n 2, 1) := by decide +kernel
theorem dX1_bestSaving_64 : decode cX1_bestSaving 64 = .ok (.iload 6, 2) := by decide +kernel
theorem dX1_bestSaving_66 : decode cX1_bestSaving 66 = .ok (.invokestatic 56, 3) := by decide +kernel
theorem dX1_bestSaving_69 : decode cX1_bestSaving 69 = .ok (.ifCond .le 55, 3) := by decide +kernel
theorem dX1_bestSaving_72 : decode cX1_bestSaving 72 = .ok (.iload 7, 2) := by decide +kernel
theorem dX1_bestSaving_74 : decode cX1_bestSaving 74 = .ok (.iload_n 3, 1) := by decide +kernel
theorem dX1_bestSaving_75 : decode cX1_bestSaving 75 = .ok (.if_icmp .gt 49, 3) := by decide +kernel
theorem dX1_bestSaving_78 : decode cX1_bestSaving 78 = .ok (.aload_n 0, 1) := by decide +kernel
theorem dX1_bestSaving_79 : decode cX1_bestSaving 79 = .ok (.iload_n 1, 1) := by decide +kernel
theorem dX1_bestSaving_80 : decode cX1_bestSaving 80 = .ok (.iload_n 2, 1) := by decide +kernel
theorem dX1_bestSaving_81 : decode cX1_bestSaving 81 = .ok (.iload 6, 2) := by decide +kernel
theorem dX1_bestSaving_83 : decode cX1_bestSaving 83 = .ok (.invokestatic 59, 3) := by decide +kernel
theorem dX1_bestSaving_86 : decode cX1_bestSaving 86 = .ok (.istore 8, 2) := by decide +kernel
theorem dX1_bestSaving_88 : decode cX1_bestSaving 88 = .ok (.aload_n 0, 1) := by decide +kernel
theorem dX1_bestSaving_89 : decode cX1_bestSaving 89 = .ok (.aload_n 0, 1) := by decide +kernel
theorem dX1_bestSaving_90 : decode cX1_bestSaving 90 = .ok (.getfield 49, 3) := by decide +kernel
theorem dX1_bestSaving_93 : decode cX1_bestSaving 93 = .ok (.iload 6, 2) := by decide +kernel
theorem dX1_bestSaving_95 : decode cX1_bestSaving 95 = .ok (.iaload, 1) := by decide +kernel
theorem dX1_bestSaving_96 : decode cX1_bestSaving 96 = .ok (.iload 8, 2) := by decide +kernel
theorem dX1_bestSaving_98 : decode cX1_bestSaving 98 = .ok (.iload_n 3, 1) := by decide +kernel
theorem dX1_bestSaving_99 : decode cX1_bestSaving 99 = .ok (.iload 7, 2) := by decide +kernel
theorem dX1_bestSaving_101 : decode cX1_bestSaving 101 = .ok (.isub, 1) := by decide +kernel
theorem dX1_bestSaving_102 : decode cX1_bestSaving 102 = .ok (.invokestatic 27, 3) := by decide +kernel
theorem dX1_bestSaving_105 : decode cX1_bestSaving 105 = .ok (.invokestatic 46, 3) := by decide +kernel
theorem dX1_bestSaving_108 : decode cX1_bestSaving 108 = .ok (.istore 9, 2) := by decide +kernel
theorem dX1_bestSaving_110 : decode cX1_bestSaving 110 = .ok (.iload 5, 2) := by decide +kernel
theorem dX1_bestSaving_112 : decode cX1_bestSaving 112 = .ok (.iload 9, 2) := by decide +kernel
theorem dX1_bestSaving_114 : decode cX1_bestSaving 114 = .ok (.iload 6, 2) := by decide +kernel
theorem dX1_bestSaving_116 : decode cX1_bestSaving 116 = .ok (.invokestatic 40, 3) := by decide +kernel
theorem dX1_bestSaving_119 : decode cX1_bestSaving 119 = .ok (.invokestatic 62, 3) := by decide +kernel
theorem dX1_bestSaving_122 : decode cX1_bestSaving 122 = .ok (.istore 5, 2) := by decide +kernel
theorem dX1_bestSaving_124 : decode cX1_bestSaving 124 = .ok (.iinc 6 1, 3) := by decide +kernel
theorem dX1_bestSaving_127 : decode cX1_bestSaving 127 = .ok (.goto (-99), 3) := by decide +kernel
theorem dX1_bestSaving_130 : decode cX1_bestSaving 130 = .ok (.iload 5, 2) := by decide +kernel
theorem dX1_bestSaving_132 : decode cX1_bestSaving 132 = .ok (.invokestatic 46, 3) := by decide +kernel
theorem dX1_bestSaving_135 : decode cX1_bestSaving 135 = .ok (.iload 4, 2) := by decide +kernel
theorem dX1_bestSaving_137 : decode cX1_bestSaving 137 = .ok (.if_icmp .ge 34, 3) := by decide +kernel
theorem dX1_bestSaving_140 : decode cX1_bestSaving 140 = .ok (.aload_n 0, 1) := by decide +kernel
theorem dX1_bestSaving_141 : decode cX1_bestSaving 141 = .ok (.iload_n 1, 1) := by decide +kernel
theorem dX1_bestSaving_142 : decode cX1_bestSaving 142 = .ok (.iload_n 2, 1) := by decide +kernel
theorem dX1_bestSaving_143 : decode cX1_bestSaving 143 = .ok (.iconst 1, 1) := by decide +kernel
theorem dX1_bestSaving_144 : decode cX1_bestSaving 144 = .ok (.invokestatic 65, 3) := by decide +kernel
theorem dX1_bestSaving_147 : decode cX1_bestSaving 147 = .ok (.iload_n 3, 1) := by decide +kernel
theorem dX1_bestSaving_148 : decode cX1_bestSaving 148 = .ok (.iconst 1, 1) := by decide +kernel
theorem dX1_bestSaving_149 : decode cX1_bestSaving 149 = .ok (.isub, 1) := by decide +kernel
theorem dX1_bestSaving_150 : decode cX1_bestSaving 150 = .ok (.invokestatic 27, 3) := by decide +kernel
theorem dX1_bestSaving_153 : decode cX1_bestSaving 153 = .ok (.invokestatic 46, 3) := by decide +kernel
theorem dX1_bestSaving_156 : decode cX1_bestSaving 156 = .ok (.istore 6, 2) := by decide +kernel
theorem dX1_bestSaving_158 : decode cX1_bestSaving 158 = .ok (.iload 5, 2) := by decide +kernel
theorem dX1_bestSaving_160 : decode cX1_bestSaving 160 = .ok (.iload 6, 2) := by decide +kernel
theorem dX1_bestSaving_162 : decode cX1_bestSaving 162 = .ok (.iconst 5, 1) := by decide +kernel
theorem dX1_bestSaving_163 : decode cX1_bestSaving 163 = .ok (.invokestatic 40, 3) := by decide +kernel
theorem dX1_bestSaving_166 : decode cX1_bestSaving 166 = .ok (.invokestatic 62, 3) := by decide +kernel
theorem dX1_bestSaving_169 : decode cX1_bestSaving 169 = .ok (.istore 5, 2) := by decide +kernel
theorem dX1_bestSaving_171 : decode cX1_bestSaving 171 = .ok (.iload 5, 2) := by decide +kernel
theorem dX1_bestSaving_173 : decode cX1_bestSaving 173 = .ok (.ireturn, 1) := by decide +kernel
theorem dX1_bestAgainst_0 : decode cX1_bestAgainst 0 = .ok (.iload_n 3, 1) := by decide +kernel
theorem dX1_bestAgainst_1 : decode cX1_bestAgainst 1 = .ok (.ifCond .gt 12, 3) := by decide +kernel
theorem dX1_bestAgainst_4 : decode cX1_bestAgainst 4 = .ok (.iload_n 2, 1) := by decide +kernel
theorem dX1_bestAgainst_5 : decode cX1_bestAgainst 5 = .ok (.invokestatic 34, 3) := by decide +kernel
theorem dX1_bestAgainst_8 : decode cX1_bestAgainst 8 = .ok (.iconst 5, 1) := by decide +kernel
theorem dX1_bestAgainst_9 : decode cX1_bestAgainst 9 = .ok (.invokestatic 40, 3) := by decide +kernel
theorem dX1_bestAgainst_12 : decode cX1_bestAgainst 12 = .ok (.ireturn, 1) := by decide +kernel
theorem dX1_bestAgainst_13 : decode cX1_bestAgainst 13 = .ok (.aload_n 0, 1) := by decide +kernel
theorem dX1_bestAgainst_14 : decode cX1_bestAgainst 14 = .ok (.iload_n 1, 1) := by decide +kernel
theorem dX1_bestAgainst_15 : decode cX1_bestAgainst 15 = .ok (.iload_n 2, 1) := by decide +kernel
theorem dX1_bestAgainst_16 : decode cX1_bestAgainst 16 = .ok (.iconst 1, 1) := by decide +kernel
theorem dX1_bestAgainst_17 : decode cX1_bestAgainst 17 = .ok (.invokestatic 65, 3) := by decide +kernel
theorem dX1_bestAgainst_20 : decode cX1_bestAgainst 20 = .ok (.iload_n 3, 1) := by decide +kernel
theorem dX1_bestAgainst_21 : decode cX1_bestAgainst 21 = .ok (.iconst 1, 1) := by decide +kernel
theorem dX1_bestAgainst_22 : decode cX1_bestAgainst 22 = .ok (.isub, 1) := by decide +kernel
theorem dX1_bestAgainst_23 : decode cX1_bestAgainst 23 = .ok (.invokestatic 68, 3) := by decide +kernel
theorem dX1_bestAgainst_26 : decode cX1_bestAgainst 26 = .ok (.iconst 5, 1) := by decide +kernel
theorem dX1_bestAgainst_27 : decode cX1_bestAgainst 27 = .ok (.invokestatic 40, 3) := by decide +kernel
theorem dX1_bestAgainst_30 : decode cX1_bestAgainst 30 = .ok (.istore 4, 2) := by decide +kernel
theorem dX1_bestAgainst_32 : decode cX1_bestAgainst 32 = .ok (.iconst 0, 1) := by decide +kernel
theorem dX1_bestAgainst_33 : decode cX1_bestAgainst 33 = .ok (.istore 5, 2) := by decide +kernel
theorem dX1_bestAgainst_35 : decode cX1_bestAgainst 35 = .ok (.iload 5, 2) := by decide +kernel
theorem dX1_bestAgainst_37 : decode cX1_bestAgainst 37 = .ok (.aload_n 0, 1) := by decide +kernel
theorem dX1_bestAgainst_38 : decode cX1_bestAgainst 38 = .ok (.getfield 43, 3) := by decide +kernel
theorem dX1_bestAgainst_41 : decode cX1_bestAgainst 41 = .ok (.if_icmp .ge 60, 3) := by decide +kernel
theorem dX1_bestAgainst_44 : decode cX1_bestAgainst 44 = .ok (.iload_n 2, 1) := by decide +kernel
theorem dX1_bestAgainst_45 : decode cX1_bestAgainst 45 = .ok (.iload 5, 2) := by decide +kernel
theorem dX1_bestAgainst_47 : decode cX1_bestAgainst 47 = .ok (.invokestatic 56, 3) := by decide +kernel
theorem dX1_bestAgainst_50 : decode cX1_bestAgainst 50 = .ok (.ifCond .le 45, 3) := by decide +kernel
theorem dX1_bestAgainst_53 : decode cX1_bestAgainst 53 = .ok (.aload_n 0, 1) := by decide +kernel
theorem dX1_bestAgainst_54 : decode cX1_bestAgainst 54 = .ok (.iload_n 1, 1) := by decide +kernel
theorem dX1_bestAgainst_55 : decode cX1_bestAgainst 55 = .ok (.iload_n 2, 1) := by decide +kernel
theorem dX1_bestAgainst_56 : decode cX1_bestAgainst 56 = .ok (.iload 5, 2) := by decide +kernel
theorem dX1_bestAgainst_58 : decode cX1_bestAgainst 58 = .ok (.invokestatic 59, 3) := by decide +kernel
theorem dX1_bestAgainst_61 : decode cX1_bestAgainst 61 = .ok (.istore 6, 2) := by decide +kernel
theorem dX1_bestAgainst_63 : decode cX1_bestAgainst 63 = .ok (.aload_n 0, 1) := by decide +kernel
theorem dX1_bestAgainst_64 : decode cX1_bestAgainst 64 = .ok (.aload_n 0, 1) := by decide +kernel
theorem dX1_bestAgainst_65 : decode cX1_bestAgainst 65 = .ok (.getfield 49, 3) := by decide +kernel
theorem dX1_bestAgainst_68 : decode cX1_bestAgainst 68 = .ok (.iload 5, 2) := by decide +kernel
theorem dX1_bestAgainst_70 : decode cX1_bestAgainst 70 = .ok (.iaload, 1) := by decide +kernel
theorem dX1_bestAgainst_71 : decode cX1_bestAgainst 71 = .ok (.iload 6, 2) := by decide +kernel
theorem dX1_bestAgainst_73 : decode cX1_bestAgainst 73 = .ok (.iload_n 3, 1) := by decide +kernel
theorem dX1_bestAgainst_74 : decode cX1_bestAgainst 74 = .ok (.iconst 1, 1) := by decide +kernel
theorem dX1_bestAgainst_75 : decode cX1_bestAgainst 75 = .ok (.isub, 1) := by decide +kernel
theorem dX1_bestAgainst_76 : decode cX1_bestAgainst 76 = .ok (.invokestatic 68, 3) := by decide +kernel
theorem dX1_bestAgainst_79 : decode cX1_bestAgainst 79 = .ok (.istore 7, 2) := by decide +kernel
theorem dX1_bestAgainst_81 : decode cX1_bestAgainst 81 = .ok (.iload 4, 2) := by decide +kernel
theorem dX1_bestAgainst_83 : decode cX1_bestAgainst 83 = .ok (.iload 7, 2) := by decide +kernel
theorem dX1_bestAgainst_85 : decode cX1_bestAgainst 85 = .ok (.iload 5, 2) := by decide +kernel
theorem dX1_bestAgainst_87 : decode cX1_bestAgainst 87 = .ok (.invokestatic 40, 3) := by decide +kernel
theorem dX1_bestAgainst_90 : decode cX1_bestAgainst 90 = .ok (.invokestatic 62, 3) := by decide +kernel
theorem dX1_bestAgainst_93 : decode cX1_bestAgainst 93 = .ok (.istore 4, 2) := by decide +kernel
theorem dX1_bestAgainst_95 : decode cX1_bestAgainst 95 = .ok (.iinc 5 1, 3) := by decide +kernel
theorem dX1_bestAgainst_98 : decode cX1_bestAgainst 98 = .ok (.goto (-63), 3) := by decide +kernel
theorem dX1_bestAgainst_101 : decode cX1_bestAgainst 101 = .ok (.iload 4, 2) := by decide +kernel
theorem dX1_bestAgainst_103 : decode cX1_bestAgainst 103 = .ok (.ireturn, 1) := by decide +kernel
theorem dX1_worstOf_0 : decode cX1_worstOf 0 = .ok (.iload_n 3, 1) := by decide +kernel
theorem dX1_worstOf_1 : decode cX1_worstOf 1 = .ok (.ifCond .gt 8, 3) := by decide +kernel
theorem dX1_worstOf_4 : decode cX1_worstOf 4 = .ok (.iload_n 2, 1) := by decide +kernel
theorem dX1_worstOf_5 : decode cX1_worstOf 5 = .ok (.invokestatic 34, 3) := by decide +kernel
theorem dX1_worstOf_8 : decode cX1_worstOf 8 = .ok (.ireturn, 1) := by decide +kernel
theorem dX1_worstOf_9 : decode cX1_worstOf 9 = .ok (.aload_n 0, 1) := by decide +kernel
theorem dX1_worstOf_10 : decode cX1_worstOf 10 = .ok (.iload_n 1, 1) := by decide +kernel
theorem dX1_worstOf_11 : decode cX1_worstOf 11 = .ok (.iload_n 2, 1) := by decide +kernel
theorem dX1_worstOf_12 : decode cX1_worstOf 12 = .ok (.iload_n 3, 1) := by decide +kernel
theorem dX1_worstOf_13 : decode cX1_worstOf 13 = .ok (.iconst 1, 1) := by decide +kernel
theorem dX1_worstOf_14 : decode cX1_worstOf 14 = .ok (.isub, 1) := by decide +kernel
theorem dX1_worstOf_15 : decode cX1_worstOf 15 = .ok (.invokestatic 31, 3) := by decide +kernel
theorem dX1_worstOf_18 : decode cX1_worstOf 18 = .ok (.invokestatic 46, 3) := by decide +kernel
theorem dX1_worstOf_21 : decode cX1_worstOf 21 = .ok (.istore 4, 2) := by decide +kernel
theorem dX1_worstOf_23 : decode cX1_worstOf 23 = .ok (.iconst 0, 1) := by decide +kernel
theorem dX1_worstOf_24 : decode cX1_worstOf 24 = .ok (.istore 5, 2) := by decide +kernel
theorem dX1_worstOf_26 : decode cX1_worstOf 26 = .ok (.iload 5, 2) := by decide +kernel
theorem dX1_worstOf_28 : decode cX1_worstOf 28 = .ok (.aload_n 0, 1) := by decide +kernel
theorem dX1_worstOf_29 : decode cX1_worstOf 29 = .ok (.getfield 43, 3) := by decide +kernel
theorem dX1_worstOf_32 : decode cX1_worstOf 32 = .ok (.if_icmp .ge 54, 3) := by decide +kernel
theorem dX1_worstOf_35 : decode cX1_worstOf 35 = .ok (.iload_n 2, 1) := by decide +kernel
theorem dX1_worstOf_36 : decode cX1_worstOf 36 = .ok (.iload 5, 2) := by decide +kernel
theorem dX1_worstOf_38 : decode cX1_worstOf 38 = .ok (.invokestatic 56, 3) := by decide +kernel
theorem dX1_worstOf_41 : decode cX1_worstOf 41 = .ok (.istore 6, 2) := by decide +kernel
theorem dX1_worstOf_43 : decode cX1_worstOf 43 = .ok (.iload 6, 2) := by decide +kernel
theorem dX1_worstOf_45 : decode cX1_worstOf 45 = .ok (.ifCond .le 35, 3) := by decide +kernel
theorem dX1_worstOf_48 : decode cX1_worstOf 48 = .ok (.iload_n 2, 1) := by decide +kernel
theorem dX1_worstOf_49 : decode cX1_worstOf 49 = .ok (.iload 5, 2) := by decide +kernel
theorem dX1_worstOf_51 : decode cX1_worstOf 51 = .ok (.iload 6, 2) := by decide +kernel
theorem dX1_worstOf_53 : decode cX1_worstOf 53 = .ok (.iconst 1, 1) := by decide +kernel
theorem dX1_worstOf_54 : decode cX1_worstOf 54 = .ok (.isub, 1) := by decide +kernel
theorem dX1_worstOf_55 : decode cX1_worstOf 55 = .ok (.invokestatic 71, 3) := by decide +kernel
theorem dX1_worstOf_58 : decode cX1_worstOf 58 = .ok (.istore 7, 2) := by decide +kernel
theorem dX1_worstOf_60 : decode cX1_worstOf 60 = .ok (.iload 4, 2) := by decide +kernel
theorem dX1_worstOf_62 : decode cX1_worstOf 62 = .ok (.aload_n 0, 1) := by decide +kernel
theorem dX1_worstOf_63 : decode cX1_worstOf 63 = .ok (.iload_n 1, 1) := by decide +kernel
theorem dX1_worstOf_64 : decode cX1_worstOf 64 = .ok (.iload 7, 2) := by decide +kernel
theorem dX1_worstOf_66 : decode cX1_worstOf 66 = .ok (.iload_n 3, 1) := by decide +kernel
theorem dX1_worstOf_67 : decode cX1_worstOf 67 = .ok (.iconst 1, 1) := by decide +kernel
theorem dX1_worstOf_68 : decode cX1_worstOf 68 = .ok (.isub, 1) := by decide +kernel
theorem dX1_worstOf_69 : decode cX1_worstOf 69 = .ok (.invokestatic 31, 3) := by decide +kernel
theorem dX1_worstOf_72 : decode cX1_worstOf 72 = .ok (.invokestatic 46, 3) := by decide +kernel
theorem dX1_worstOf_75 : decode cX1_worstOf 75 = .ok (.invokestatic 21, 3) := by decide +kernel
theorem dX1_worstOf_78 : decode cX1_worstOf 78 = .ok (.istore 4, 2) := by decide +kernel
theorem dX1_worstOf_80 : decode cX1_worstOf 80 = .ok (.iinc 5 1, 3) := by decide +kernel
theorem dX1_worstOf_83 : decode cX1_worstOf 83 = .ok (.goto (-57), 3) := by decide +kernel
theorem dX1_worstOf_86 : decode cX1_worstOf 86 = .ok (.iload 4, 2) := by decide +kernel
theorem dX1_worstOf_88 : decode cX1_worstOf 88 = .ok (.ireturn, 1) := by decide +kernel
theorem dX2_init_0 : decode cX2_init 0 = .ok (.aload_n 0, 1) := by decide +kernel
theorem dX2_init_1 : decode cX2_init 1 = .ok (.invokespecial 3, 3) := by decide +kernel
theorem dX2_init_4 : decode cX2_init 4 = .ok (.aload_n 0, 1) := by decide +kernel
theorem dX2_init_5 : decode cX2_init 5 = .ok (.new 9, 3) := by decide +kernel
theorem dX2_init_8 : decode cX2_init 8 = .ok (.dup, 1) := by decide +kernel
theorem dX2_init_9 : decode cX2_init 9 = .ok (.invokespecial 11, 3) := by decide +kernel
theorem dX2_init_12 : decode cX2_init 12 = .ok (.putfield 12, 3) := by decide +kernel
theorem dX2_init_15 : decode cX2_init 15 = .ok (.aload_n 0, 1) := by decide +kernel
theorem dX2_init_16 : decode cX2_init 16 = .ok (.iconst 0, 1) := by decide +kernel
theorem dX2_init_17 : decode cX2_init 17 = .ok (.putfield 18, 3) := by decide +kernel
theorem dX2_init_20 : decode cX2_init 20 = .ok (.aload_n 0, 1) := by decide +kernel
theorem dX2_init_21 : decode cX2_init 21 = .ok (.iconst 0, 1) := by decide +kernel
theorem dX2_init_22 : decode cX2_init 22 = .ok (.putfield 22, 3) := by decide +kernel
theorem dX2_init_25 : decode cX2_init 25 = .ok (.aload_n 0, 1) := by decide +kernel
theorem dX2_init_26 : decode cX2_init 26 = .ok (.iconst 0, 1) := by decide +kernel
theorem dX2_init_27 : decode cX2_init 27 = .ok (.putfield 26, 3) := by decide +kernel
theorem dX2_init_30 : decode cX2_init 30 = .ok (.aload_n 0, 1) := by decide +kernel
theorem dX2_init_31 : decode cX2_init 31 = .ok (.iconst 0, 1) := by decide +kernel
theorem dX2_init_32 : decode cX2_init 32 = .ok (.putfield 29, 3) := by decide +kernel
theorem dX2_init_35 : decode cX2_init 35 = .ok (.aload_n 0, 1) := by decide +kernel
theorem dX2_init_36 : decode cX2_init 36 = .ok (.iconst 0, 1) := by decide +kernel
theorem dX2_init_37 : decode cX2_init 37 = .ok (.putfield 32, 3) := by decide +kernel
theorem dX2_init_40 : decode cX2_init 40 = .ok (.aload_n 0, 1) := by decide +kernel
theorem dX2_init_41 : decode cX2_init 41 = .ok (.iconst 0, 1) := by decide +kernel
theorem dX2_init_42 : decode cX2_init 42 = .ok (.putfield 35, 3) := by decide +kernel
theorem dX2_init_45 : decode cX2_init 45 = .ok (.aload_n 0, 1) := by decide +kernel
theorem dX2_init_46 : decode cX2_init 46 = .ok (.sipush 4096, 3) := by decide +kernel
theorem dX2_init_49 : decode cX2_init 49 = .ok (.newarray .short, 2) := by decide +kernel
theorem dX2_init_51 : decode cX2_init 51 = .ok (.putfield 38, 3) := by decide +kernel
theorem dX2_init_54 : decode cX2_init 54 = .ok (.aload_n 0, 1) := by decide +kernel
theorem dX2_init_55 : decode cX2_init 55 = .ok (.sipush 2200, 3) := by decide +kernel
theorem dX2_init_58 : decode cX2_init 58 = .ok (.newarray .byte, 2) := by decide +kernel
theorem dX2_init_60 : decode cX2_init 60 = .ok (.putfield 42, 3) := by decide +kernel
theorem dX2_init_63 : decode cX2_init 63 = .ok (.aload_n 0, 1) := by decide +kernel
theorem dX2_init_64 : decode cX2_init 64 = .ok (.sipush 2200, 3) := by decide +kernel
theorem dX2_init_67 : decode cX2_init 67 = .ok (.newarray .short, 2) := by decide +kernel
theorem dX2_init_69 : decode cX2_init 69 = .ok (.putfield 46, 3) := by decide +kernel
theorem dX2_init_72 : decode cX2_init 72 = .ok (.aload_n 0, 1) := by decide +kernel
theorem dX2_init_73 : decode cX2_init 73 = .ok (.sipush 2200, 3) := by decide +kernel
theorem dX2_init_76 : decode cX2_init 76 = .ok (.newarray .byte, 2) := by decide +kernel
theorem dX2_init_78 : decode cX2_init 78 = .ok (.putfield 49, 3) := by decide +kernel
theorem dX2_init_81 : decode cX2_init 81 = .ok (.aload_n 0, 1) := by decide +kernel
theorem dX2_init_82 : decode cX2_init 82 = .ok (.sipush 2200, 3) := by decide +kernel
theorem dX2_init_85 : decode cX2_init 85 = .ok (.newarray .byte, 2) := by decide +kernel
theorem dX2_init_87 : decode cX2_init 87 = .ok (.putfield 52, 3) := by decide +kernel
theorem dX2_init_90 : decode cX2_init 90 = .ok (.aload_n 0, 1) := by decide +kernel
theorem dX2_init_91 : decode cX2_init 91 = .ok (.sipush 2200, 3) := by decide +kernel
theorem dX2_init_94 : decode cX2_init 94 = .ok (.newarray .short, 2) := by decide +kernel
theorem dX2_init_96 : decode cX2_init 96 = .ok (.putfield 55, 3) := by decide +kernel
theorem dX2_init_99 : decode cX2_init 99 = .ok (.aload_n 0, 1) := by decide +kernel
theorem dX2_init_100 : decode cX2_init 100 = .ok (.sipush 2200, 3) := by decide +kernel
theorem dX2_init_103 : decode cX2_init 103 = .ok (.newarray .short, 2) := by decide +kernel
theorem dX2_init_105 : decode cX2_init 105 = .ok (.putfield 58, 3) := by decide +kernel
theorem dX2_init_108 : decode cX2_init 108 = .ok (.aload_n 0, 1) := by decide +kernel
theorem dX2_init_109 : decode cX2_init 109 = .ok (.sipush 11000, 3) := by decide +kernel
theorem dX2_init_112 : decode cX2_init 112 = .ok (.newarray .short, 2) := by decide +kernel
theorem dX2_init_114 : decode cX2_init 114 = .ok (.putfield 61, 3) := by decide +kernel
theorem dX2_init_117 : decode cX2_init 117 = .ok (.aload_n 0, 1) := by decide +kernel
theorem dX2_init_118 : decode cX2_init 118 = .ok (.sipush 2200, 3) := by decide +kernel
theorem dX2_init_121 : decode cX2_init 121 = .ok (.newarray .short, 2) := by decide +kernel
theorem dX2_init_123 : decode cX2_init 123 = .ok (.putfield 64, 3) := by decide +kernel
theorem dX2_init_126 : decode cX2_init 126 = .ok (.aload_n 0, 1) := by decide +kernel
theorem dX2_init_127 : decode cX2_init 127 = .ok (.sipush 2200, 3) := by decide +kernel
theorem dX2_init_130 : decode cX2_init 130 = .ok (.newarray .short, 2) := by decide +kernel
theorem dX2_init_132 : decode cX2_init 132 = .ok (.putfield 67, 3) := by decide +kernel
theorem dX2_init_135 : decode cX2_init 135 = .ok (.return_, 1) := by decide +kernel
theorem dX2_exploreAll_0 : decode cX2_exploreAll 0 = .ok (.aload_n 0, 1) := by decide +kernel
theorem dX2_exploreAll_1 : decode cX2_exploreAll 1 = .ok (.getfield 18, 3) := by decide +kernel
theorem dX2_exploreAll_4 : decode cX2_exploreAll 4 = .ok (.ifCond .eq 14, 3) := by decide +kernel
theorem dX2_exploreAll_7 : decode cX2_exploreAll 7 = .ok (.aload_n 0, 1) := by decide +kernel
theorem dX2_exploreAll_8 : decode cX2_exploreAll 8 = .ok (.getfield 12, 3) := by decide +kernel
theorem dX2_exploreAll_11 : decode cX2_exploreAll 11 = .ok (.aload_n 1, 1) := by decide +kernel
theorem dX2_exploreAll_12 : decode cX2_exploreAll 12 = .ok (.invokevirtual 70, 3) := by decide +kernel
theorem dX2_exploreAll_15 : decode cX2_exploreAll 15 = .ok (.ifCond .ne 10, 3) := by decide +kernel
theorem dX2_exploreAll_18 : decode cX2_exploreAll 18 = .ok (.aload_n 0, 1) := by decide +kernel
theorem dX2_exploreAll_19 : decode cX2_exploreAll 19 = .ok (.aload_n 1, 1) := by decide +kernel
theorem dX2_exploreAll_20 : decode cX2_exploreAll 20 = .ok (.iconst 1, 1) := by decide +kernel
theorem dX2_exploreAll_21 : decode cX2_exploreAll 21 = .ok (.invokevirtual 74, 3) := by decide +kernel
theorem dX2_exploreAll_24 : decode cX2_exploreAll 24 = .ok (.pop, 1) := by decide +kernel
theorem dX2_exploreAll_25 : decode cX2_exploreAll 25 = .ok (.return_, 1) := by decide +kernel
theorem dX2_explore_0 : decode cX2_explore 0 = .ok (.aload_n 0, 1) := by decide +kernel
theorem dX2_explore_1 : decode cX2_explore 1 = .ok (.invokevirtual 78, 3) := by decide +kernel
theorem dX2_explore_4 : decode cX2_explore 4 = .ok (.aload_n 0, 1) := by decide +kernel
theorem dX2_explore_5 : decode cX2_explore 5 = .ok (.getfield 12, 3) := by decide +kernel
theorem dX2_explore_8 : decode cX2_explore 8 = .ok (.aload_n 1, 1) := by decide +kernel
theorem dX2_explore_9 : decode cX2_explore 9 = .ok (.invokevirtual 81, 3) := by decide +kernel
theorem dX2_explore_12 : decode cX2_explore 12 = .ok (.aload_n 0, 1) := by decide +kernel
theorem dX2_explore_13 : decode cX2_explore 13 = .ok (.iload_n 2, 1) := by decide +kernel
theorem dX2_explore_14 : decode cX2_explore 14 = .ok (.putfield 18, 3) := by decide +kernel
theorem dX2_explore_17 : decode cX2_explore 17 = .ok (.aload_n 0, 1) := by decide +kernel
theorem dX2_explore_18 : decode cX2_explore 18 = .ok (.iconst 0, 1) := by decide +kernel
theorem dX2_explore_19 : decode cX2_explore 19 = .ok (.putfield 26, 3) := by decide +kernel
theorem dX2_explore_22 : decode cX2_explore 22 = .ok (.aload_n 0, 1) := by decide +kernel
theorem dX2_explore_23 : decode cX2_explore 23 = .ok (.aload_n 0, 1) := by decide +kernel
theorem dX2_explore_24 : decode cX2_explore 24 = .ok (.iconst 5, 1) := by decide +kernel
theorem dX2_explore_25 : decode cX2_explore 25 = .ok (.aload_n 0, 1) := by decide +kernel
theorem dX2_explore_26 : decode cX2_explore 26 = .ok (.getfield 12, 3) := by decide +kernel
theorem dX2_explore_29 : decode cX2_explore 29 = .ok (.invokevirtual 85, 3) := by decide +kernel
theorem dX2_explore_32 : decode cX2_explore 32 = .ok (.invokevirtual 89, 3) := by decide +kernel
theorem dX2_explore_35 : decode cX2_explore 35 = .ok (.invokevirtual 93, 3) := by decide +kernel
theorem dX2_explore_38 : decode cX2_explore 38 = .ok (.iconst 0, 1) := by decide +kernel
theorem dX2_explore_39 : decode cX2_explore 39 = .ok (.istore_n 3, 1) := by decide +kernel
theorem dX2_explore_40 : decode cX2_explore 40 = .ok (.iload_n 3, 1) := by decide +kernel
theorem dX2_explore_41 : decode cX2_explore 41 = .ok (.ldc 97, 2) := by decide +kernel
theorem dX2_explore_43 : decode cX2_explore 43 = .ok (.if_icmp .ge 139, 3) := by decide +kernel
theorem dX2_explore_46 : decode cX2_explore 46 = .ok (.aload_n 0, 1) := by decide +kernel
theorem dX2_explore_47 : decode cX2_explore 47 = .ok (.getfield 26, 3) := by decide +kernel
theorem dX2_explore_50 : decode cX2_explore 50 = .ok (.ifCond .le 132, 3) := by decide +kernel
theorem dX2_explore_53 : decode cX2_explore 53 = .ok (.aload_n 0, 1) := by decide +kernel
theorem dX2_explore_54 : decode cX2_explore 54 = .ok (.getfield 58, 3) := by decide +kernel
theorem dX2_explore_57 : decode cX2_explore 57 = .ok (.aload_n 0, 1) := by decide +kernel
theorem dX2_explore_58 : decode cX2_explore 58 = .ok (.getfield 26, 3) := by decide +kernel
theorem dX2_explore_61 : decode cX2_explore 61 = .ok (.iconst 1, 1) := by decide +kernel
theorem dX2_explore_62 : decode cX2_explore 62 = .ok (.isub, 1) := by decide +kernel
theorem dX2_explore_63 : decode cX2_explore 63 = .ok (.saload, 1) := by decide +kernel
theorem dX2_explore_64 : decode cX2_explore 64 = .ok (.istore 4, 2) := by decide +kernel
theorem dX2_explore_66 : decode cX2_explore 66 = .ok (.aload_n 0, 1) := by decide +kernel
theorem dX2_explore_67 : decode cX2_explore 67 = .ok (.getfield 52, 3) := by decide +kernel
theorem dX2_explore_70 : decode cX2_explore 70 = .ok (.iload 4, 2) := by decide +kernel
theorem dX2_explore_72 : decode cX2_explore 72 = .ok (.baload, 1) := by decide +kernel
theorem dX2_explore_73 : decode cX2_explore 73 = .ok (.istore 5, 2) := by decide +kernel
theorem dX2_explore_75 : decode cX2_explore 75 = .ok (.iload 5, 2) := by decide +kernel
theorem dX2_explore_77 : decode cX2_explore 77 = .ok (.aload_n 0, 1) := by decide +kernel
theorem dX2_explore_78 : decode cX2_explore 78 = .ok (.getfield 12, 3) := by decide +kernel
theorem dX2_explore_81 : decode cX2_explore 81 = .ok (.getfield 98, 3) := by decide +kernel
theorem dX2_explore_84 : decode cX2_explore 84 = .ok (.if_icmp .lt 22, 3) := by decide +kernel
theorem dX2_explore_87 : decode cX2_explore 87 = .ok (.aload_n 0, 1) := by decide +kernel
theorem dX2_explore_88 : decode cX2_explore 88 = .ok (.iload 4, 2) := by decide +kernel
theorem dX2_explore_90 : decode cX2_explore 90 = .ok (.invokevirtual 101, 3) := by decide +kernel
theorem dX2_explore_93 : decode cX2_explore 93 = .ok (.aload_n 0, 1) := by decide +kernel
theorem dX2_explore_94 : decode cX2_explore 94 = .ok (.dup, 1) := by decide +kernel
theorem dX2_explore_95 : decode cX2_explore 95 = .ok (.getfield 26, 3) := by decide +kernel
theorem dX2_explore_98 : decode cX2_explore 98 = .ok (.iconst 1, 1) := by decide +kernel
theorem dX2_explore_99 : decode cX2_explore 99 = .ok (.isub, 1) := by decide +kernel
theorem dX2_explore_100 : decode cX2_explore 100 = .ok (.putfield 26, 3) := by decide +kernel
theorem dX2_explore_103 : decode cX2_explore 103 = .ok (.goto 73, 3) := by decide +kernel
theorem dX2_explore_106 : decode cX2_explore 106 = .ok (.aload_n 0, 1) := by decide +kernel
theorem dX2_explore_107 : decode cX2_explore 107 = .ok (.getfield 52, 3) := by decide +kernel
theorem dX2_explore_110 : decode cX2_explore 110 = .ok (.iload 4, 2) := by decide +kernel
theorem dX2_explore_112 : decode cX2_explore 112 = .ok (.dup2, 1) := by decide +kernel
theorem dX2_explore_113 : decode cX2_explore 113 = .ok (.baload, 1) := by decide +kernel
theorem dX2_explore_114 : decode cX2_explore 114 = .ok (.iconst 1, 1) := by decide +kernel
theorem dX2_explore_115 : decode cX2_explore 115 = .ok (.iadd, 1) := by decide +kernel
theorem dX2_explore_116 : decode cX2_explore 116 = .ok (.i2b, 1) := by decide +kernel
theorem dX2_explore_117 : decode cX2_explore 117 = .ok (.bastore, 1) := by decide +kernel
theorem dX2_explore_118 : decode cX2_explore 118 = .ok (.aload_n 0, 1) := by decide +kernel
theorem dX2_explore_119 : decode cX2_explore 119 = .ok (.iload 4, 2) := by decide +kernel
theorem dX2_explore_121 : decode cX2_explore 121 = .ok (.iload 5, 2) := by decide +kernel
theorem dX2_explore_123 : decode cX2_explore 123 = .ok (.invokevirtual 104, 3) := by decide +kernel
theorem dX2_explore_126 : decode cX2_explore 126 = .ok (.istore 6, 2) := by decide +kernel
theorem dX2_explore_128 : decode cX2_explore 128 = .ok (.iload 6, 2) := by decide +kernel
theorem dX2_explore_130 : decode cX2_explore 130 = .ok (.iconst (-1), 1) := by decide +kernel
theorem dX2_explore_131 : decode cX2_explore 131 = .ok (.if_icmp .eq 22, 3) := by decide +kernel
theorem dX2_explore_134 : decode cX2_explore 134 = .ok (.aload_n 0, 1) := by decide +kernel
theorem dX2_explore_135 : decode cX2_explore 135 = .ok (.getfield 49, 3) := by decide +kernel
theorem dX2_explore_138 : decode cX2_explore 138 = .ok (.iload 6, 2) := by decide +kernel
theorem dX2_explore_140 : decode cX2_explore 140 = .ok (.baload, 1) := by decide +kernel
theorem dX2_explore_141 : decode cX2_explore 141 = .ok (.ifCond .ne 12, 3) := by decide +kernel
theorem dX2_explore_144 : decode cX2_explore 144 = .ok (.aload_n 0, 1) := by decide +kernel
theorem dX2_explore_145 : decode cX2_explore 145 = .ok (.iload 6, 2) := by decide +kernel
theorem dX2_explore_147 : decode cX2_explore 147 = .ok (.invokevirtual 93, 3) := by decide +kernel
theorem dX2_explore_150 : decode cX2_explore 150 = .ok (.goto 26, 3) := by decide +kernel
theorem dX2_explore_153 : decode cX2_explore 153 = .ok (.iload 6, 2) := by decide +kernel
theorem dX2_explore_155 : decode cX2_explore 155 = .ok (.iconst (-1), 1) := by decide +kernel
theorem dX2_explore_156 : decode cX2_explore 156 = .ok (.if_icmp .eq 20, 3) := by decide +kernel
theorem dX2_explore_159 : decode cX2_explore 159 = .ok (.aload_n 0, 1) := by decide +kernel
theorem dX2_explore_160 : decode cX2_explore 160 = .ok (.getfield 49, 3) := by decide +kernel
theorem dX2_explore_163 : decode cX2_explore 163 = .ok (.iload 6, 2) := by decide +kernel
theorem dX2_explore_165 : decode cX2_explore 165 = .ok (.baload, 1) := by decide +kernel
theorem dX2_explore_166 : decode cX2_explore 166 = .ok (.iconst 1, 1) := by decide +kernel
theorem dX2_explore_167 : decode cX2_explore 167 = .ok (.if_icmp .ne 9, 3) := by decide +kernel
theorem dX2_explore_170 : decode cX2_explore 170 = .ok (.iload_n 2, 1) := by decide +kernel
theorem dX2_explore_171 : decode cX2_explore 171 = .ok (.ifCond .ne 5, 3) := by decide +kernel
theorem dX2_explore_174 : decode cX2_explore 174 = .ok (.iconst 1, 1) := by decide +kernel
theorem dX2_explore_175 : decode cX2_explore 175 = .ok (.ireturn, 1) := by decide +kernel
theorem dX2_explore_176 : decode cX2_explore 176 = .ok (.iinc 3 1, 3) := by decide +kernel
theorem dX2_explore_179 : decode cX2_explore 179 = .ok (.goto (-139), 3) := by decide +kernel
theorem dX2_explore_182 : decode cX2_explore 182 = .ok (.aload_n 0, 1) := by decide +kernel
theorem dX2_explore_183 : decode cX2_explore 183 = .ok (.iconst 0, 1) := by decide +kernel
theorem dX2_explore_184 : decode cX2_explore 184 = .ok (.invokevirtual 107, 3) := by decide +kernel
theorem dX2_explore_187 : decode cX2_explore 187 = .ok (.ireturn, 1) := by decide +kernel
theorem dX2_forget_0 : decode cX2_forget 0 = .ok (.aload_n 0, 1) := by decide +kernel
theorem dX2_forget_1 : decode cX2_forget 1 = .ok (.getfield 22, 3) := by decide +kernel
theorem dX2_forget_4 : decode cX2_forget 4 = .ok (.iconst 1, 1) := by decide +kernel
theorem dX2_forget_5 : decode cX2_forget 5 = .ok (.isub, 1) := by decide +kernel
theorem dX2_forget_6 : decode cX2_forget 6 = .ok (.istore_n 1, 1) := by decide +kernel
theorem dX2_forget_7 : decode cX2_forget 7 = .ok (.iload_n 1, 1) := by decide +kernel
theorem dX2_forget_8 : decode cX2_forget 8 = .ok (.ifCond .lt 31, 3) := by decide +kernel
theorem dX2_forget_11 : decode cX2_forget 11 = .ok (.aload_n 0, 1) := by decide +kernel
theorem dX2_forget_12 : decode cX2_forget 12 = .ok (.getfield 38, 3) := by decide +kernel
theorem dX2_forget_15 : decode cX2_forget 15 = .ok (.aload_n 0, 1) := by decide +kernel
theorem dX2_forget_16 : decode cX2_forget 16 = .ok (.aload_n 0, 1) := by decide +kernel
theorem dX2_forget_17 : decode cX2_forget 17 = .ok (.getfield 42, 3) := by decide +kernel
theorem dX2_forget_20 : decode cX2_forget 20 = .ok (.iload_n 1, 1) := by decide +kernel
theorem dX2_forget_21 : decode cX2_forget 21 = .ok (.baload, 1) := by decide +kernel
theorem dX2_forget_22 : decode cX2_forget 22 = .ok (.aload_n 0, 1) := by decide +kernel
theorem dX2_forget_23 : decode cX2_forget 23 = .ok (.getfield 46, 3) := by decide +kernel
theorem dX2_forget_26 : decode cX2_forget 26 = .ok (.iload_n 1, 1) := by decide +kernel
theorem dX2_forget_27 : decode cX2_forget 27 = .ok (.saload, 1) := by decide +kernel
theorem dX2_forget_28 : decode cX2_forget 28 = .ok (.invokevirtual 111, 3) := by decide +kernel
theorem dX2_forget_31 : decode cX2_forget 31 = .ok (.iconst 0, 1) := by decide +kernel
theorem dX2_forget_32 : decode cX2_forget 32 = .ok (.sastore, 1) := by decide +kernel
theorem dX2_forget_33 : decode cX2_forget 33 = .ok (.iinc 1 (-1), 3) := by decide +kernel
theorem dX2_forget_36 : decode cX2_forget 36 = .ok (.goto (-29), 3) := by decide +kernel
theorem dX2_forget_39 : decode cX2_forget 39 = .ok (.aload_n 0, 1) := by decide +kernel
theorem dX2_forget_40 : decode cX2_forget 40 = .ok (.iconst 0, 1) := by decide +kernel
theorem dX2_forget_41 : decode cX2_forget 41 = .ok (.putfield 22, 3) := by decide +kernel
theorem dX2_forget_44 : decode cX2_forget 44 = .ok (.return_, 1) := by decide +kernel
theorem dX2_slotOf_0 : decode cX2_slotOf 0 = .ok (.iload_n 1, 1) := by decide +kernel
theorem dX2_slotOf_1 : decode cX2_slotOf 1 = .ok (.bipush 15, 2) := by decide +kernel
theorem dX2_slotOf_3 : decode cX2_slotOf 3 = .ok (.ishl, 1) := by decide +kernel
theorem dX2_slotOf_4 : decode cX2_slotOf 4 = .ok (.iload_n 2, 1) := by decide +kernel
theorem dX2_slotOf_5 : decode cX2_slotOf 5 = .ok (.ior, 1) := by decide +kernel
theorem dX2_slotOf_6 : decode cX2_slotOf 6 = .ok (.ldc 114, 2) := by decide +kernel
theorem dX2_slotOf_8 : decode cX2_slotOf 8 = .ok (.imul, 1) := by decide +kernel
theorem dX2_slotOf_9 : decode cX2_slotOf 9 = .ok (.bipush 20, 2) := by decide +kernel
theorem dX2_slotOf_11 : decode cX2_slotOf 11 = .ok (.iushr, 1) := by decide +kernel
theorem dX2_slotOf_12 : decode cX2_slotOf 12 = .ok (.istore_n 3, 1) := by decide +kernel
theorem dX2_slotOf_13 : decode cX2_slotOf 13 = .ok (.iconst 0, 1) := by decide +kernel
theorem dX2_slotOf_14 : decode cX2_slotOf 14 = .ok (.istore 4, 2) := by decide +kernel
theorem dX2_slotOf_16 : decode cX2_slotOf 16 = .ok (.iload 4, 2) := by decide +kernel
theorem dX2_slotOf_18 : decode cX2_slotOf 18 = .ok (.sipush 4096, 3) := by decide +kernel
theorem dX2_slotOf_21 : decode cX2_slotOf 21 = .ok (.if_icmp .ge 64, 3) := by decide +kernel
theorem dX2_slotOf_24 : decode cX2_slotOf 24 = .ok (.aload_n 0, 1) := by decide +kernel
theorem dX2_slotOf_25 : decode cX2_slotOf 25 = .ok (.getfield 38, 3) := by decide +kernel
theorem dX2_slotOf_28 : decode cX2_slotOf 28 = .ok (.iload_n 3, 1) := by decide +kernel
theorem dX2_slotOf_29 : decode cX2_slotOf 29 = .ok (.saload, 1) := by decide +kernel
theorem dX2_slotOf_30 : decode cX2_slotOf 30 = .ok (.iconst 1, 1) := by decide +kernel
theorem dX2_slotOf_31 : decode cX2_slotOf 31 = .ok (.isub, 1) := by decide +kernel
theorem dX2_slotOf_32 : decode cX2_slotOf 32 = .ok (.istore 5, 2) := by decide +kernel
theorem dX2_slotOf_34 : decode cX2_slotOf 34 = .ok (.iload 5, 2) := by decide +kernel
theorem dX2_slotOf_36 : decode cX2_slotOf 36 = .ok (.ifCond .lt 33, 3) := by decide +kernel
theorem dX2_slotOf_39 : decode cX2_slotOf 39 = .ok (.iload 5, 2) := by decide +kernel
theorem dX2_slotOf_41 : decode cX2_slotOf 41 = .ok (.sipush 2200, 3) := by decide +kernel
theorem dX2_slotOf_44 : decode cX2_slotOf 44 = .ok (.if_icmp .ge 25, 3) := by decide +kernel
theorem dX2_slotOf_47 : decode cX2_slotOf 47 = .ok (.aload_n 0, 1) := by decide +kernel
theorem dX2_slotOf_48 : decode cX2_slotOf 48 = .ok (.getfield 42, 3) := by decide +kernel
theorem dX2_slotOf_51 : decode cX2_slotOf 51 = .ok (.iload 5, 2) := by decide +kernel
theorem dX2_slotOf_53 : decode cX2_slotOf 53 = .ok (.baload, 1) := by decide +kernel
theorem dX2_slotOf_54 : decode cX2_slotOf 54 = .ok (.iload_n 1, 1) := by decide +kernel
theorem dX2_slotOf_55 : decode cX2_slotOf 55 = .ok (.if_icmp .ne 16, 3) := by decide +kernel
theorem dX2_slotOf_58 : decode cX2_slotOf 58 = .ok (.aload_n 0, 1) := by decide +kernel
theorem dX2_slotOf_59 : decode cX2_slotOf 59 = .ok (.getfield 46, 3) := by decide +kernel
theorem dX2_slotOf_62 : decode cX2_slotOf 62 = .ok (.iload 5, 2) := by decide +kernel
theorem dX2_slotOf_64 : decode cX2_slotOf 64 = .ok (.saload, 1) := by decide +kernel
theorem dX2_slotOf_65 : decode cX2_slotOf 65 = .ok (.iload_n 2, 1) := by decide +kernel
theorem dX2_slotOf_66 : decode cX2_slotOf 66 = .ok (.if_icmp .ne 5, 3) := by decide +kernel
theorem dX2_slotOf_69 : decode cX2_slotOf 69 = .ok (.iload_n 3, 1) := by decide +kernel
theorem dX2_slotOf_70 : decode cX2_slotOf 70 = .ok (.ireturn, 1) := by decide +kernel
theorem dX2_slotOf_71 : decode cX2_slotOf 71 = .ok (.iload_n 3, 1) := by decide +kernel
theorem dX2_slotOf_72 : decode cX2_slotOf 72 = .ok (.iconst 1, 1) := by decide +kernel
theorem dX2_slotOf_73 : decode cX2_slotOf 73 = .ok (.iadd, 1) := by decide +kernel
theorem dX2_slotOf_74 : decode cX2_slotOf 74 = .ok (.sipush 4095, 3) := by decide +kernel
theorem dX2_slotOf_77 : decode cX2_slotOf 77 = .ok (.iand, 1) := by decide +kernel
theorem dX2_slotOf_78 : decode cX2_slotOf 78 = .ok (.istore_n 3, 1) := by decide +kernel
theorem dX2_slotOf_79 : decode cX2_slotOf 79 = .ok (.iinc 4 1, 3) := by decide +kernel
theorem dX2_slotOf_82 : decode cX2_slotOf 82 = .ok (.goto (-66), 3) := by decide +kernel
theorem dX2_slotOf_85 : decode cX2_slotOf 85 = .ok (.iload_n 3, 1) := by decide +kernel
theorem dX2_slotOf_86 : decode cX2_slotOf 86 = .ok (.ireturn, 1) := by decide +kernel
theorem dX2_numberFor_0 : decode cX2_numberFor 0 = .ok (.aload_n 0, 1) := by decide +kernel
theorem dX2_numberFor_1 : decode cX2_numberFor 1 = .ok (.iload_n 1, 1) := by decide +kernel
theorem dX2_numberFor_2 : decode cX2_numberFor 2 = .ok (.iload_n 2, 1) := by decide +kernel
theorem dX2_numberFor_3 : decode cX2_numberFor 3 = .ok (.invokevirtual 111, 3) := by decide +kernel
theorem dX2_numberFor_6 : decode cX2_numberFor 6 = .ok (.istore_n 3, 1) := by decide +kernel
theorem dX2_numberFor_7 : decode cX2_numberFor 7 = .ok (.aload_n 0, 1) := by decide +kernel
theorem dX2_numberFor_8 : decode cX2_numberFor 8 = .ok (.getfield 38, 3) := by decide +kernel
theorem dX2_numberFor_11 : decode cX2_numberFor 11 = .ok (.iload_n 3, 1) := by decide +kernel
theorem dX2_numberFor_12 : decode cX2_numberFor 12 = .ok (.saload, 1) := by decide +kernel
theorem dX2_numberFor_13 : decode cX2_numberFor 13 = .ok (.ifCond .ne 66, 3) := by decide +kernel
theorem dX2_numberFor_16 : decode cX2_numberFor 16 = .ok (.aload_n 0, 1) := by decide +kernel
theorem dX2_numberFor_17 : decode cX2_numberFor 17 = .ok (.getfield 22, 3) := by decide +kernel
theorem dX2_numberFor_20 : decode cX2_numberFor 20 = .ok (.sipush 2200, 3) := by decide +kernel
theorem dX2_numberFor_23 : decode cX2_numberFor 23 = .ok (.if_icmp .ge 56, 3) := by decide +kernel
theorem dX2_numberFor_26 : decode cX2_numberFor 26 = .ok (.aload_n 0, 1) := by decide +kernel
theorem dX2_numberFor_27 : decode cX2_numberFor 27 = .ok (.getfield 42, 3) := by decide +kernel
theorem dX2_numberFor_30 : decode cX2_numberFor 30 = .ok (.aload_n 0, 1) := by decide +kernel
theorem dX2_numberFor_31 : decode cX2_numberFor 31 = .ok (.getfield 22, 3) := by decide +kernel
theorem dX2_numberFor_34 : decode cX2_numberFor 34 = .ok (.iload_n 1, 1) := by decide +kernel
theorem dX2_numberFor_35 : decode cX2_numberFor 35 = .ok (.i2b, 1) := by decide +kernel
theorem dX2_numberFor_36 : decode cX2_numberFor 36 = .ok (.bastore, 1) := by decide +kernel
theorem dX2_numberFor_37 : decode cX2_numberFor 37 = .ok (.aload_n 0, 1) := by decide +kernel
theorem dX2_numberFor_38 : decode cX2_numberFor 38 = .ok (.getfield 46, 3) := by decide +kernel
theorem dX2_numberFor_41 : decode cX2_numberFor 41 = .ok (.aload_n 0, 1) := by decide +kernel
theorem dX2_numberFor_42 : decode cX2_numberFor 42 = .ok (.getfield 22, 3) := by decide +kernel
theorem dX2_numberFor_45 : decode cX2_numberFor 45 = .ok (.iload_n 2, 1) := by decide +kernel
theorem dX2_numberFor_46 : decode cX2_numberFor 46 = .ok (.i2s, 1) := by decide +kernel
theorem dX2_numberFor_47 : decode cX2_numberFor 47 = .ok (.sastore, 1) := by decide +kernel
theorem dX2_numberFor_48 : decode cX2_numberFor 48 = .ok (.aload_n 0, 1) := by decide +kernel
theorem dX2_numberFor_49 : decode cX2_numberFor 49 = .ok (.getfield 49, 3) := by decide +kernel
theorem dX2_numberFor_52 : decode cX2_numberFor 52 = .ok (.aload_n 0, 1) := by decide +kernel
theorem dX2_numberFor_53 : decode cX2_numberFor 53 = .ok (.getfield 22, 3) := by decide +kernel
theorem dX2_numberFor_56 : decode cX2_numberFor 56 = .ok (.iconst 0, 1) := by decide +kernel
theorem dX2_numberFor_57 : decode cX2_numberFor 57 = .ok (.bastore, 1) := by decide +kernel
theorem dX2_numberFor_58 : decode cX2_numberFor 58 = .ok (.aload_n 0, 1) := by decide +kernel
theorem dX2_numberFor_59 : decode cX2_numberFor 59 = .ok (.dup, 1) := by decide +kernel
theorem dX2_numberFor_60 : decode cX2_numberFor 60 = .ok (.getfield 22, 3) := by decide +kernel
theorem dX2_numberFor_63 : decode cX2_numberFor 63 = .ok (.iconst 1, 1) := by decide +kernel
theorem dX2_numberFor_64 : decode cX2_numberFor 64 = .ok (.iadd, 1) := by decide +kernel
theorem dX2_numberFor_65 : decode cX2_numberFor 65 = .ok (.putfield 22, 3) := by decide +kernel
theorem dX2_numberFor_68 : decode cX2_numberFor 68 = .ok (.aload_n 0, 1) := by decide +kernel
theorem dX2_numberFor_69 : decode cX2_numberFor 69 = .ok (.getfield 38, 3) := by decide +kernel
theorem dX2_numberFor_72 : decode cX2_numberFor 72 = .ok (.iload_n 3, 1) := by decide +kernel
theorem dX2_numberFor_73 : decode cX2_numberFor 73 = .ok (.aload_n 0, 1) := by decide +kernel
theorem dX2_numberFor_74 : decode cX2_numberFor 74 = .ok (.getfield 22, 3) := by decide +kernel
theorem dX2_numberFor_77 : decode cX2_numberFor 77 = .ok (.i2s, 1) := by decide +kernel
theorem dX2_numberFor_78 : decode cX2_numberFor 78 = .ok (.sastore, 1) := by decide +kernel
theorem dX2_numberFor_79 : decode cX2_numberFor 79 = .ok (.aload_n 0, 1) := by decide +kernel
theorem dX2_numberFor_80 : decode cX2_numberFor 80 = .ok (.getfield 38, 3) := by decide +kernel
theorem dX2_numberFor_83 : decode cX2_numberFor 83 = .ok (.iload_n 3, 1) := by decide +kernel
theorem dX2_numberFor_84 : decode cX2_numberFor 84 = .ok (.saload, 1) := by decide +kernel
theorem dX2_numberFor_85 : decode cX2_numberFor 85 = .ok (.iconst 1, 1) := by decide +kernel
theorem dX2_numberFor_86 : decode cX2_numberFor 86 = .ok (.isub, 1) := by decide +kernel
theorem dX2_numberFor_87 : decode cX2_numberFor 87 = .ok (.ireturn, 1) := by decide +kernel
theorem dX2_enter_0 : decode cX2_enter 0 = .ok (.iload_n 1, 1) := by decide +kernel
theorem dX2_enter_1 : decode cX2_enter 1 = .ok (.ifCond .lt 20, 3) := by decide +kernel
theorem dX2_enter_4 : decode cX2_enter 4 = .ok (.iload_n 1, 1) := by decide +kernel
theorem dX2_enter_5 : decode cX2_enter 5 = .ok (.sipush 2200, 3) := by decide +kernel
theorem dX2_enter_8 : decode cX2_enter 8 = .ok (.if_icmp .ge 13, 3) := by decide +kernel
theorem dX2_enter_11 : decode cX2_enter 11 = .ok (.aload_n 0, 1) := by decide +kernel
theorem dX2_enter_12 : decode cX2_enter 12 = .ok (.getfield 26, 3) := by decide +kernel
theorem dX2_enter_15 : decode cX2_enter 15 = .ok (.sipush 2200, 3) := by decide +kernel
theorem dX2_enter_18 : decode cX2_enter 18 = .ok (.if_icmp .lt 4, 3) := by decide +kernel
theorem dX2_enter_21 : decode cX2_enter 21 = .ok (.return_, 1) := by decide +kernel
theorem dX2_enter_22 : decode cX2_enter 22 = .ok (.aload_n 0, 1) := by decide +kernel
theorem dX2_enter_23 : decode cX2_enter 23 = .ok (.getfield 58, 3) := by decide +kernel
theorem dX2_enter_26 : decode cX2_enter 26 = .ok (.aload_n 0, 1) := by decide +kernel
theorem dX2_enter_27 : decode cX2_enter 27 = .ok (.getfield 26, 3) := by decide +kernel
theorem dX2_enter_30 : decode cX2_enter 30 = .ok (.iload_n 1, 1) := by decide +kernel
theorem dX2_enter_31 : decode cX2_enter 31 = .ok (.i2s, 1) := by decide +kernel
theorem dX2_enter_32 : decode cX2_enter 32 = .ok (.sastore, 1) := by decide +kernel
theorem dX2_enter_33 : decode cX2_enter 33 = .ok (.aload_n 0, 1) := by decide +kernel
theorem dX2_enter_34 : decode cX2_enter 34 = .ok (.dup, 1) := by decide +kernel
theorem dX2_enter_35 : decode cX2_enter 35 = .ok (.getfield 26, 3) := by decide +kernel
theorem dX2_enter_38 : decode cX2_enter 38 = .ok (.iconst 1, 1) := by decide +kernel
theorem dX2_enter_39 : decode cX2_enter 39 = .ok (.iadd, 1) := by decide +kernel
theorem dX2_enter_40 : decode cX2_enter 40 = .ok (.putfield 26, 3) := by decide +kernel
theorem dX2_enter_43 : decode cX2_enter 43 = .ok (.aload_n 0, 1) := by decide +kernel
theorem dX2_enter_44 : decode cX2_enter 44 = .ok (.getfield 49, 3) := by decide +kernel
theorem dX2_enter_47 : decode cX2_enter 47 = .ok (.iload_n 1, 1) := by decide +kernel
theorem dX2_enter_48 : decode cX2_enter 48 = .ok (.iconst 1, 1) := by decide +kernel
theorem dX2_enter_49 : decode cX2_enter 49 = .ok (.bastore, 1) := by decide +kernel
theorem dX2_enter_50 : decode cX2_enter 50 = .ok (.aload_n 0, 1) := by decide +kernel
theorem dX2_enter_51 : decode cX2_enter 51 = .ok (.getfield 52, 3) := by decide +kernel
theorem dX2_enter_54 : decode cX2_enter 54 = .ok (.iload_n 1, 1) := by decide +kernel
theorem dX2_enter_55 : decode cX2_enter 55 = .ok (.iconst 0, 1) := by decide +kernel
theorem dX2_enter_56 : decode cX2_enter 56 = .ok (.bastore, 1) := by decide +kernel
theorem dX2_enter_57 : decode cX2_enter 57 = .ok (.aload_n 0, 1) := by decide +kernel
theorem dX2_enter_58 : decode cX2_enter 58 = .ok (.iload_n 1, 1) := by decide +kernel
theorem dX2_enter_59 : decode cX2_enter 59 = .ok (.invokevirtual 115, 3) := by decide +kernel
theorem dX2_enter_62 : decode cX2_enter 62 = .ok (.istore_n 2, 1) := by decide +kernel
theorem dX2_enter_63 : decode cX2_enter 63 = .ok (.iconst 0, 1) := by decide +kernel
theorem dX2_enter_64 : decode cX2_enter 64 = .ok (.istore_n 3, 1) := by decide +kernel
theorem dX2_enter_65 : decode cX2_enter 65 = .ok (.iload_n 3, 1) := by decide +kernel
theorem dX2_enter_66 : decode cX2_enter 66 = .ok (.aload_n 0, 1) := by decide +kernel
theorem dX2_enter_67 : decode cX2_enter 67 = .ok (.getfield 12, 3) := by decide +kernel
theorem dX2_enter_70 : decode cX2_enter 70 = .ok (.getfield 98, 3) := by decide +kernel
theorem dX2_enter_73 : decode cX2_enter 73 = .ok (.if_icmp .ge 65, 3) := by decide +kernel
theorem dX2_enter_76 : decode cX2_enter 76 = .ok (.iconst (-1), 1) := by decide +kernel
theorem dX2_enter_77 : decode cX2_enter 77 = .ok (.istore 4, 2) := by decide +kernel
theorem dX2_enter_79 : decode cX2_enter 79 = .ok (.aload_n 0, 1) := by decide +kernel
theorem dX2_enter_80 : decode cX2_enter 80 = .ok (.getfield 12, 3) := by decide +kernel
theorem dX2_enter_83 : decode cX2_enter 83 = .ok (.iload_n 2, 1) := by decide +kernel
theorem dX2_enter_84 : decode cX2_enter 84 = .ok (.aload_n 0, 1) := by decide +kernel
theorem dX2_enter_85 : decode cX2_enter 85 = .ok (.getfield 46, 3) := by decide +kernel
theorem dX2_enter_88 : decode cX2_enter 88 = .ok (.iload_n 1, 1) := by decide +kernel
theorem dX2_enter_89 : decode cX2_enter 89 = .ok (.saload, 1) := by decide +kernel
theorem dX2_enter_90 : decode cX2_enter 90 = .ok (.iload_n 3, 1) := by decide +kernel
theorem dX2_enter_91 : decode cX2_enter 91 = .ok (.invokestatic 119, 3) := by decide +kernel
theorem dX2_enter_94 : decode cX2_enter 94 = .ok (.ifCond .eq 25, 3) := by decide +kernel
theorem dX2_enter_97 : decode cX2_enter 97 = .ok (.aload_n 0, 1) := by decide +kernel
theorem dX2_enter_98 : decode cX2_enter 98 = .ok (.iload_n 3, 1) := by decide +kernel
theorem dX2_enter_99 : decode cX2_enter 99 = .ok (.aload_n 0, 1) := by decide +kernel
theorem dX2_enter_100 : decode cX2_enter 100 = .ok (.getfield 12, 3) := by decide +kernel
theorem dX2_enter_103 : decode cX2_enter 103 = .ok (.iload_n 2, 1) := by decide +kernel
theorem dX2_enter_104 : decode cX2_enter 104 = .ok (.aload_n 0, 1) := by decide +kernel
theorem dX2_enter_105 : decode cX2_enter 105 = .ok (.getfield 46, 3) := by decide +kernel
theorem dX2_enter_108 : decode cX2_enter 108 = .ok (.iload_n 1, 1) := by decide +kernel
theorem dX2_enter_109 : decode cX2_enter 109 = .ok (.saload, 1) := by decide +kernel
theorem dX2_enter_110 : decode cX2_enter 110 = .ok (.iload_n 3, 1) := by decide +kernel
theorem dX2_enter_111 : decode cX2_enter 111 = .ok (.invokestatic 125, 3) := by decide +kernel
theorem dX2_enter_114 : decode cX2_enter 114 = .ok (.invokevirtual 89, 3) := by decide +kernel
theorem dX2_enter_117 : decode cX2_enter 117 = .ok (.istore 4, 2) := by decide +kernel
theorem dX2_enter_119 : decode cX2_enter 119 = .ok (.aload_n 0, 1) := by decide +kernel
theorem dX2_enter_120 : decode cX2_enter 120 = .ok (.getfield 61, 3) := by decide +kernel
theorem dX2_enter_123 : decode cX2_enter 123 = .ok (.iload_n 1, 1) := by decide +kernel
theorem dX2_enter_124 : decode cX2_enter 124 = .ok (.iconst 5, 1) := by decide +kernel
theorem dX2_enter_125 : decode cX2_enter 125 = .ok (.imul, 1) := by decide +kernel
theorem dX2_enter_126 : decode cX2_enter 126 = .ok (.iload_n 3, 1) := by decide +kernel
theorem dX2_enter_127 : decode cX2_enter 127 = .ok (.iadd, 1) := by decide +kernel
theorem dX2_enter_128 : decode cX2_enter 128 = .ok (.iload 4, 2) := by decide +kernel
theorem dX2_enter_130 : decode cX2_enter 130 = .ok (.i2s, 1) := by decide +kernel
theorem dX2_enter_131 : decode cX2_enter 131 = .ok (.sastore, 1) := by decide +kernel
theorem dX2_enter_132 : decode cX2_enter 132 = .ok (.iinc 3 1, 3) := by decide +kernel
theorem dX2_enter_135 : decode cX2_enter 135 = .ok (.goto (-70), 3) := by decide +kernel
theorem dX2_enter_138 : decode cX2_enter 138 = .ok (.return_, 1) := by decide +kernel
theorem dX2_placeOf_0 : decode cX2_placeOf 0 = .ok (.aload_n 0, 1) := by decide +kernel
theorem dX2_placeOf_1 : decode cX2_placeOf 1 = .ok (.getfield 42, 3) := by decide +kernel
theorem dX2_placeOf_4 : decode cX2_placeOf 4 = .ok (.iload_n 1, 1) := by decide +kernel
theorem dX2_placeOf_5 : decode cX2_placeOf 5 = .ok (.baload, 1) := by decide +kernel
theorem dX2_placeOf_6 : decode cX2_placeOf 6 = .ok (.istore_n 2, 1) := by decide +kernel
theorem dX2_placeOf_7 : decode cX2_placeOf 7 = .ok (.aload_n 0, 1) := by decide +kernel
theorem dX2_placeOf_8 : decode cX2_placeOf 8 = .ok (.getfield 12, 3) := by decide +kernel
theorem dX2_placeOf_11 : decode cX2_placeOf 11 = .ok (.iload_n 2, 1) := by decide +kernel
theorem dX2_placeOf_12 : decode cX2_placeOf 12 = .ok (.invokevirtual 129, 3) := by decide +kernel
theorem dX2_placeOf_15 : decode cX2_placeOf 15 = .ok (.ifCond .eq 15, 3) := by decide +kernel
theorem dX2_placeOf_18 : decode cX2_placeOf 18 = .ok (.aload_n 0, 1) := by decide +kernel
theorem dX2_placeOf_19 : decode cX2_placeOf 19 = .ok (.getfield 12, 3) := by decide +kernel
theorem dX2_placeOf_22 : decode cX2_placeOf 22 = .ok (.getfield 132, 3) := by decide +kernel
theorem dX2_placeOf_25 : decode cX2_placeOf 25 = .ok (.iload_n 2, 1) := by decide +kernel
theorem dX2_placeOf_26 : decode cX2_placeOf 26 = .ok (.iaload, 1) := by decide +kernel
theorem dX2_placeOf_27 : decode cX2_placeOf 27 = .ok (.goto 10, 3) := by decide +kernel
theorem dX2_placeOf_30 : decode cX2_placeOf 30 = .ok (.aload_n 0, 1) := by decide +kernel
theorem dX2_placeOf_31 : decode cX2_placeOf 31 = .ok (.getfield 12, 3) := by decide +kernel
theorem dX2_placeOf_34 : decode cX2_placeOf 34 = .ok (.getfield 136, 3) := by decide +kernel
theorem dX2_placeOf_37 : decode cX2_placeOf 37 = .ok (.ireturn, 1) := by decide +kernel
theorem dX2_followerOf_0 : decode cX2_followerOf 0 = .ok (.iload_n 1, 1) := by decide +kernel
theorem dX2_followerOf_1 : decode cX2_followerOf 1 = .ok (.iconst 5, 1) := by decide +kernel
theorem dX2_followerOf_2 : decode cX2_followerOf 2 = .ok (.imul, 1) := by decide +kernel
theorem dX2_followerOf_3 : decode cX2_followerOf 3 = .ok (.iload_n 2, 1) := by decide +kernel
theorem dX2_followerOf_4 : decode cX2_followerOf 4 = .ok (.iadd, 1) := by decide +kernel
theorem dX2_followerOf_5 : decode cX2_followerOf 5 = .ok (.istore_n 3, 1) := by decide +kernel
theorem dX2_followerOf_6 : decode cX2_followerOf 6 = .ok (.aload_n 0, 1) := by decide +kernel
theorem dX2_followerOf_7 : decode cX2_followerOf 7 = .ok (.getfield 12, 3) := by decide +kernel
theorem dX2_followerOf_10 : decode cX2_followerOf 10 = .ok (.iload_n 2, 1) := by decide +kernel
theorem dX2_followerOf_11 : decode cX2_followerOf 11 = .ok (.invokevirtual 129, 3) := by decide +kernel
theorem dX2_followerOf_14 : decode cX2_followerOf 14 = .ok (.ifCond .eq 25, 3) := by decide +kernel
theorem dX2_followerOf_17 : decode cX2_followerOf 17 = .ok (.iload_n 3, 1) := by decide +kernel
theorem dX2_followerOf_18 : decode cX2_followerOf 18 = .ok (.ifCond .lt 21, 3) := by decide +kernel
theorem dX2_followerOf_21 : decode cX2_followerOf 21 = .ok (.iload_n 3, 1) := by decide +kernel
theorem dX2_followerOf_22 : decode cX2_followerOf 22 = .ok (.aload_n 0, 1) := by decide +kernel
theorem dX2_followerOf_23 : decode cX2_followerOf 23 = .ok (.getfield 61, 3) := by decide +kernel
theorem dX2_followerOf_26 : decode cX2_followerOf 26 = .ok (.arraylength, 1) := by decide +kernel
theorem dX2_followerOf_27 : decode cX2_followerOf 27 = .ok (.if_icmp .ge 12, 3) := by decide +kernel
theorem dX2_followerOf_30 : decode cX2_followerOf 30 = .ok (.aload_n 0, 1) := by decide +kernel
theorem dX2_followerOf_31 : decode cX2_followerOf 31 = .ok (.getfield 61, 3) := by decide +kernel
theorem dX2_followerOf_34 : decode cX2_followerOf 34 = .ok (.iload_n 3, 1) := by decide +kernel
theorem dX2_followerOf_35 : decode cX2_followerOf 35 = .ok (.saload, 1) := by decide +kernel
theorem dX2_followerOf_36 : decode cX2_followerOf 36 = .ok (.goto 4, 3) := by decide +kernel
theorem dX2_followerOf_39 : decode cX2_followerOf 39 = .ok (.iconst (-1), 1) := by decide +kernel
theorem dX2_followerOf_40 : decode cX2_followerOf 40 = .ok (.ireturn, 1) := by decide +kernel
theorem dX2_beatsTo_0 : decode cX2_beatsTo 0 = .ok (.aload_n 0, 1) := by decide +kernel
theorem dX2_beatsTo_1 : decode cX2_beatsTo 1 = .ok (.getfield 12, 3) := by decide +kernel
theorem dX2_beatsTo_4 : decode cX2_beatsTo 4 = .ok (.aload_n 0, 1) := by decide +kernel
theorem dX2_beatsTo_5 : decode cX2_beatsTo 5 = .ok (.iload_n 1, 1) := by decide +kernel
theorem dX2_beatsTo_6 : decode cX2_beatsTo 6 = .ok (.invokevirtual 115, 3) := by decide +kernel
theorem dX2_beatsTo_9 : decode cX2_beatsTo 9 = .ok (.aload_n 0, 1) := by decide +kernel
theorem dX2_beatsTo_10 : decode cX2_beatsTo 10 = .ok (.getfield 12, 3) := by decide +kernel
theorem dX2_beatsTo_13 : decode cX2_beatsTo 13 = .ok (.getfield 132, 3) := by decide +kernel
theorem dX2_beatsTo_16 : decode cX2_beatsTo 16 = .ok (.iload_n 2, 1) := by decide +kernel
theorem dX2_beatsTo_17 : decode cX2_beatsTo 17 = .ok (.iaload, 1) := by decide +kernel
theorem dX2_beatsTo_18 : decode cX2_beatsTo 18 = .ok (.invokevirtual 139, 3) := by decide +kernel
theorem dX2_beatsTo_21 : decode cX2_beatsTo 21 = .ok (.iconst 1, 1) := by decide +kernel
theorem dX2_beatsTo_22 : decode cX2_beatsTo 22 = .ok (.iadd, 1) := by decide +kernel
theorem dX2_beatsTo_23 : decode cX2_beatsTo 23 = .ok (.ireturn, 1) := by decide +kernel
theorem dX2_finish_0 : decode cX2_finish 0 = .ok (.aload_n 0, 1) := by decide +kernel
theorem dX2_finish_1 : decode cX2_finish 1 = .ok (.getfield 12, 3) := by decide +kernel
theorem dX2_finish_4 : decode cX2_finish 4 = .ok (.getfield 98, 3) := by decide +kernel
theorem dX2_finish_7 : decode cX2_finish 7 = .ok (.ifCond .ne 7, 3) := by decide +kernel
theorem dX2_finish_10 : decode cX2_finish 10 = .ok (.iconst 1, 1) := by decide +kernel
theorem dX2_finish_11 : decode cX2_finish 11 = .ok (.goto 4, 3) := by decide +kernel
theorem dX2_finish_14 : decode cX2_finish 14 = .ok (.iconst 0, 1) := by decide +kernel
theorem dX2_finish_15 : decode cX2_finish 15 = .ok (.istore_n 2, 1) := by decide +kernel
theorem dX2_finish_16 : decode cX2_finish 16 = .ok (.aload_n 0, 1) := by decide +kernel
theorem dX2_finish_17 : decode cX2_finish 17 = .ok (.getfield 12, 3) := by decide +kernel
theorem dX2_finish_20 : decode cX2_finish 20 = .ok (.aload_n 0, 1) := by decide +kernel
theorem dX2_finish_21 : decode cX2_finish 21 = .ok (.getfield 46, 3) := by decide +kernel
theorem dX2_finish_24 : decode cX2_finish 24 = .ok (.iload_n 1, 1) := by decide +kernel
theorem dX2_finish_25 : decode cX2_finish 25 = .ok (.saload, 1) := by decide +kernel
theorem dX2_finish_26 : decode cX2_finish 26 = .ok (.invokestatic 142, 3) := by decide +kernel
theorem dX2_finish_29 : decode cX2_finish 29 = .ok (.istore_n 3, 1) := by decide +kernel
theorem dX2_finish_30 : decode cX2_finish 30 = .ok (.iconst 0, 1) := by decide +kernel
theorem dX2_finish_31 : decode cX2_finish 31 = .ok (.istore 4, 2) := by decide +kernel
theorem dX2_finish_33 : decode cX2_finish 33 = .ok (.iload 4, 2) := by decide +kernel
theorem dX2_finish_35 : decode cX2_finish 35 = .ok (.aload_n 0, 1) := by decide +kernel
theorem dX2_finish_36 : decode cX2_finish 36 = .ok (.getfield 12, 3) := by decide +kernel
theorem dX2_finish_39 : decode cX2_finish 39 = .ok (.getfield 98, 3) := by decide +kernel
theorem dX2_finish_42 : decode cX2_finish 42 = .ok (.if_icmp .ge 63, 3) := by decide +kernel
theorem dX2_finish_45 : decode cX2_finish 45 = .ok (.aload_n 0, 1) := by decide +kernel
theorem dX2_finish_46 : decode cX2_finish 46 = .ok (.iload_n 1, 1) := by decide +kernel
theorem dX2_finish_47 : decode cX2_finish 47 = .ok (.iload 4, 2) := by decide +kernel
theorem dX2_finish_49 : decode cX2_finish 49 = .ok (.invokevirtual 104, 3) := by decide +kernel
theorem dX2_finish_52 : decode cX2_finish 52 = .ok (.istore 5, 2) := by decide +kernel
theorem dX2_finish_54 : decode cX2_finish 54 = .ok (.iload 5, 2) := by decide +kernel
theorem dX2_finish_56 : decode cX2_finish 56 = .ok (.iconst (-1), 1) := by decide +kernel
theorem dX2_finish_57 : decode cX2_finish 57 = .ok (.if_icmp .eq 42, 3) := by decide +kernel
theorem dX2_finish_60 : decode cX2_finish 60 = .ok (.iload_n 2, 1) := by decide +kernel
theorem dX2_finish_61 : decode cX2_finish 61 = .ok (.aload_n 0, 1) := by decide +kernel
theorem dX2_finish_62 : decode cX2_finish 62 = .ok (.getfield 49, 3) := by decide +kernel
theorem dX2_finish_65 : decode cX2_finish 65 = .ok (.iload 5, 2) := by decide +kernel
theorem dX2_finish_67 : decode cX2_finish 67 = .ok (.baload, 1) := by decide +kernel
theorem dX2_finish_68 : decode cX2_finish 68 = .ok (.iconst 2, 1) := by decide +kernel
theorem dX2_finish_69 : decode cX2_finish 69 = .ok (.if_icmp .eq 7, 3) := by decide +kernel
theorem dX2_finish_72 : decode cX2_finish 72 = .ok (.iconst 1, 1) := by decide +kernel
theorem dX2_finish_73 : decode cX2_finish 73 = .ok (.goto 4, 3) := by decide +kernel
theorem dX2_finish_76 : decode cX2_finish 76 = .ok (.iconst 0, 1) := by decide +kernel
theorem dX2_finish_77 : decode cX2_finish 77 = .ok (.ior, 1) := by decide +kernel
theorem dX2_finish_78 : decode cX2_finish 78 = .ok (.istore_n 2, 1) := by decide +kernel
theorem dX2_finish_79 : decode cX2_finish 79 = .ok (.iload_n 3, 1) := by decide +kernel
theorem dX2_finish_80 : decode cX2_finish 80 = .ok (.aload_n 0, 1) := by decide +kernel
theorem dX2_finish_81 : decode cX2_finish 81 = .ok (.iload_n 1, 1) := by decide +kernel
theorem dX2_finish_82 : decode cX2_finish 82 = .ok (.iload 4, 2) := by decide +kernel
theorem dX2_finish_84 : decode cX2_finish 84 = .ok (.invokevirtual 146, 3) := by decide +kernel
theorem dX2_finish_87 : decode cX2_finish 87 = .ok (.aload_n 0, 1) := by decide +kernel
theorem dX2_finish_88 : decode cX2_finish 88 = .ok (.getfield 55, 3) := by decide +kernel
theorem dX2_finish_91 : decode cX2_finish 91 = .ok (.iload 5, 2) := by decide +kernel
theorem dX2_finish_93 : decode cX2_finish 93 = .ok (.saload, 1) := by decide +kernel
theorem dX2_finish_94 : decode cX2_finish 94 = .ok (.iadd, 1) := by decide +kernel
theorem dX2_finish_95 : decode cX2_finish 95 = .ok (.invokestatic 149, 3) := by decide +kernel
theorem dX2_finish_98 : decode cX2_finish 98 = .ok (.istore_n 3, 1) := by decide +kernel
theorem dX2_finish_99 : decode cX2_finish 99 = .ok (.iinc 4 1, 3) := by decide +kernel
theorem dX2_finish_102 : decode cX2_finish 102 = .ok (.goto (-69), 3) := by decide +kernel
theorem dX2_finish_105 : decode cX2_finish 105 = .ok (.aload_n 0, 1) := by decide +kernel
theorem dX2_finish_106 : decode cX2_finish 106 = .ok (.getfield 49, 3) := by decide +kernel
theorem dX2_finish_109 : decode cX2_finish 109 = .ok (.iload_n 1, 1) := by decide +kernel
theorem dX2_finish_110 : decode cX2_finish 110 = .ok (.iload_n 2, 1) := by decide +kernel
theorem dX2_finish_111 : decode cX2_finish 111 = .ok (.ifCond .eq 7, 3) := by decide +kernel
theorem dX2_finish_114 : decode cX2_finish 114 = .ok (.iconst 3, 1) := by decide +kernel
theorem dX2_finish_115 : decode cX2_finish 115 = .ok (.goto 4, 3) := by decide +kernel
theorem dX2_finish_118 : decode cX2_finish 118 = .ok (.iconst 2, 1) := by decide +kernel
theorem dX2_finish_119 : decode cX2_finish 119 = .ok (.i2b, 1) := by decide +kernel
theorem dX2_finish_120 : decode cX2_finish 120 = .ok (.bastore, 1) := by decide +kernel
theorem dX2_finish_121 : decode cX2_finish 121 = .ok (.aload_n 0, 1) := by decide +kernel
theorem dX2_finish_122 : decode cX2_finish 122 = .ok (.getfield 55, 3) := by decide +kernel
theorem dX2_finish_125 : decode cX2_finish 125 = .ok (.iload_n 1, 1) := by decide +kernel
theorem dX2_finish_126 : decode cX2_finish 126 = .ok (.iload_n 2, 1) := by decide +kernel
theorem dX2_finish_127 : decode cX2_finish 127 = .ok (.ifCond .eq 7, 3) := by decide +kernel
theorem dX2_finish_130 : decode cX2_finish 130 = .ok (.iconst 0, 1) := by decide +kernel
theorem dX2_finish_131 : decode cX2_finish 131 = .ok (.goto 4, 3) := by decide +kernel
theorem dX2_finish_134 : decode cX2_finish 134 = .ok (.iload_n 3, 1) := by decide +kernel
theorem dX2_finish_135 : decode cX2_finish 135 = .ok (.i2s, 1) := by decide +kernel
theorem dX2_finish_136 : decode cX2_finish 136 = .ok (.sastore, 1) := by decide +kernel
theorem dX2_finish_137 : decode cX2_finish 137 = .ok (.return_, 1) := by decide +kernel
theorem dX2_isForever_0 : decode cX2_isForever 0 = .ok (.iload_n 1, 1) := by decide +kernel
theorem dX2_isForever_1 : decode cX2_isForever 1 = .ok (.ifCond .lt 25, 3) := by decide +kernel
theorem dX2_isForever_4 : decode cX2_isForever 4 = .ok (.iload_n 1, 1) := by decide +kernel
theorem dX2_isForever_5 : decode cX2_isForever 5 = .ok (.aload_n 0, 1) := by decide +kernel
theorem dX2_isForever_6 : decode cX2_isForever 6 = .ok (.getfield 22, 3) := by decide +kernel
theorem dX2_isForever_9 : decode cX2_isForever 9 = .ok (.if_icmp .ge 17, 3) := by decide +kernel
theorem dX2_isForever_12 : decode cX2_isForever 12 = .ok (.aload_n 0, 1) := by decide +kernel
theorem dX2_isForever_13 : decode cX2_isForever 13 = .ok (.getfield 49, 3) := by decide +kernel
theorem dX2_isForever_16 : decode cX2_isForever 16 = .ok (.iload_n 1, 1) := by decide +kernel
theorem dX2_isForever_17 : decode cX2_isForever 17 = .ok (.baload, 1) := by decide +kernel
theorem dX2_isForever_18 : decode cX2_isForever 18 = .ok (.iconst 3, 1) := by decide +kernel
theorem dX2_isForever_19 : decode cX2_isForever 19 = .ok (.if_icmp .ne 7, 3) := by decide +kernel
theorem dX2_isForever_22 : decode cX2_isForever 22 = .ok (.iconst 1, 1) := by decide +kernel
theorem dX2_isForever_23 : decode cX2_isForever 23 = .ok (.goto 4, 3) := by decide +kernel
theorem dX2_isForever_26 : decode cX2_isForever 26 = .ok (.iconst 0, 1) := by decide +kernel
theorem dX2_isForever_27 : decode cX2_isForever 27 = .ok (.ireturn, 1) := by decide +kernel
theorem dX2_lastsFrom_0 : decode cX2_lastsFrom 0 = .ok (.iload_n 1, 1) := by decide +kernel
theorem dX2_lastsFrom_1 : decode cX2_lastsFrom 1 = .ok (.ifCond .lt 21, 3) := by decide +kernel
theorem dX2_lastsFrom_4 : decode cX2_lastsFrom 4 = .ok (.iload_n 1, 1) := by decide +kernel
theorem dX2_lastsFrom_5 : decode cX2_lastsFrom 5 = .ok (.aload_n 0, 1) := by decide +kernel
theorem dX2_lastsFrom_6 : decode cX2_lastsFrom 6 = .ok (.getfield 22, 3) := by decide +kernel
theorem dX2_lastsFrom_9 : decode cX2_lastsFrom 9 = .ok (.if_icmp .ge 13, 3) := by decide +kernel
theorem dX2_lastsFrom_12 : decode cX2_lastsFrom 12 = .ok (.aload_n 0, 1) := by decide +kernel
theorem dX2_lastsFrom_13 : decode cX2_lastsFrom 13 = .ok (.getfield 49, 3) := by decide +kernel
theorem dX2_lastsFrom_16 : decode cX2_lastsFrom 16 = .ok (.iload_n 1, 1) := by decide +kernel
theorem dX2_lastsFrom_17 : decode cX2_lastsFrom 17 = .ok (.baload, 1) := by decide +kernel
theorem dX2_lastsFrom_18 : decode cX2_lastsFrom 18 = .ok (.iconst 3, 1) := by decide +kernel
theorem dX2_lastsFrom_19 : decode cX2_lastsFrom 19 = .ok (.if_icmp .ne 7, 3) := by decide +kernel
theorem dX2_lastsFrom_22 : decode cX2_lastsFrom 22 = .ok (.iconst (-1), 1) := by decide +kernel
theorem dX2_lastsFrom_23 : decode cX2_lastsFrom 23 = .ok (.goto 9, 3) := by decide +kernel
theorem dX2_lastsFrom_26 : decode cX2_lastsFrom 26 = .ok (.aload_n 0, 1) := by decide +kernel
theorem dX2_lastsFrom_27 : decode cX2_lastsFrom 27 = .ok (.getfield 55, 3) := by decide +kernel
theorem dX2_lastsFrom_30 : decode cX2_lastsFrom 30 = .ok (.iload_n 1, 1) := by decide +kernel
theorem dX2_lastsFrom_31 : decode cX2_lastsFrom 31 = .ok (.saload, 1) := by decide +kernel
theorem dX2_lastsFrom_32 : decode cX2_lastsFrom 32 = .ok (.ireturn, 1) := by decide +kernel
theorem dX2_behindFirst_0 : decode cX2_behindFirst 0 = .ok (.aload_n 0, 1) := by decide +kernel
theorem dX2_behindFirst_1 : decode cX2_behindFirst 1 = .ok (.iconst 0, 1) := by decide +kernel
theorem dX2_behindFirst_2 : decode cX2_behindFirst 2 = .ok (.iload_n 1, 1) := by decide +kernel
theorem dX2_behindFirst_3 : decode cX2_behindFirst 3 = .ok (.invokevirtual 104, 3) := by decide +kernel
theorem dX2_behindFirst_6 : decode cX2_behindFirst 6 = .ok (.ireturn, 1) := by decide +kernel
theorem dX2_reached_0 : decode cX2_reached 0 = .ok (.aload_n 0, 1) := by decide +kernel
theorem dX2_reached_1 : decode cX2_reached 1 = .ok (.getfield 22, 3) := by decide +kernel
theorem dX2_reached_4 : decode cX2_reached 4 = .ok (.ireturn, 1) := by decide +kernel
theorem dX2_safe_0 : decode cX2_safe 0 = .ok (.iconst 0, 1) := by decide +kernel
theorem dX2_safe_1 : decode cX2_safe 1 = .ok (.istore_n 1, 1) := by decide +kernel
theorem dX2_safe_2 : decode cX2_safe 2 = .ok (.iconst 0, 1) := by decide +kernel
theorem dX2_safe_3 : decode cX2_safe 3 = .ok (.istore_n 2, 1) := by decide +kernel
theorem dX2_safe_4 : decode cX2_safe 4 = .ok (.iload_n 2, 1) := by decide +kernel
theorem dX2_safe_5 : decode cX2_safe 5 = .ok (.aload_n 0, 1) := by decide +kernel
theorem dX2_safe_6 : decode cX2_safe 6 = .ok (.getfield 22, 3) := by decide +kernel
theorem dX2_safe_9 : decode cX2_safe 9 = .ok (.if_icmp .ge 22, 3) := by decide +kernel
theorem dX2_safe_12 : decode cX2_safe 12 = .ok (.aload_n 0, 1) := by decide +kernel
theorem dX2_safe_13 : decode cX2_safe 13 = .ok (.getfield 49, 3) := by decide +kernel
theorem dX2_safe_16 : decode cX2_safe 16 = .ok (.iload_n 2, 1) := by decide +kernel
theorem dX2_safe_17 : decode cX2_safe 17 = .ok (.baload, 1) := by decide +kernel
theorem dX2_safe_18 : decode cX2_safe 18 = .ok (.iconst 3, 1) := by decide +kernel
theorem dX2_safe_19 : decode cX2_safe 19 = .ok (.if_icmp .ne 6, 3) := by decide +kernel
theorem dX2_safe_22 : decode cX2_safe 22 = .ok (.iinc 1 1, 3) := by decide +kernel
theorem dX2_safe_25 : decode cX2_safe 25 = .ok (.iinc 2 1, 3) := by decide +kernel
theorem dX2_safe_28 : decode cX2_safe 28 = .ok (.goto (-24), 3) := by decide +kernel
theorem dX2_safe_31 : decode cX2_safe 31 = .ok (.iload_n 1, 1) := by decide +kernel
theorem dX2_safe_32 : decode cX2_safe 32 = .ok (.ireturn, 1) := by decide +kernel
theorem dX2_answer_0 : decode cX2_answer 0 = .ok (.aload_n 0, 1) := by decide +kernel
theorem dX2_answer_1 : decode cX2_answer 1 = .ok (.iconst 0, 1) := by decide +kernel
theorem dX2_answer_2 : decode cX2_answer 2 = .ok (.invokevirtual 107, 3) := by decide +kernel
theorem dX2_answer_5 : decode cX2_answer 5 = .ok (.istore_n 2, 1) := by decide +kernel
theorem dX2_answer_6 : decode cX2_answer 6 = .ok (.iload_n 1, 1) := by decide +kernel
theorem dX2_answer_7 : decode cX2_answer 7 = .ok (.lookupswitch 62 #[(0, 33), (1, 43), (5, 49)], 33) := by decide +kernel
theorem dX2_answer_40 : decode cX2_answer 40 = .ok (.iload_n 2, 1) := by decide +kernel
theorem dX2_answer_41 : decode cX2_answer 41 = .ok (.ifCond .eq 7, 3) := by decide +kernel
theorem dX2_answer_44 : decode cX2_answer 44 = .ok (.iconst 1, 1) := by decide +kernel
theorem dX2_answer_45 : decode cX2_answer 45 = .ok (.goto 4, 3) := by decide +kernel
theorem dX2_answer_48 : decode cX2_answer 48 = .ok (.iconst 0, 1) := by decide +kernel
theorem dX2_answer_49 : decode cX2_answer 49 = .ok (.ireturn, 1) := by decide +kernel
theorem dX2_answer_50 : decode cX2_answer 50 = .ok (.aload_n 0, 1) := by decide +kernel
theorem dX2_answer_51 : decode cX2_answer 51 = .ok (.iconst 0, 1) := by decide +kernel
theorem dX2_answer_52 : decode cX2_answer 52 = .ok (.invokevirtual 154, 3) := by decide +kernel
theorem dX2_answer_55 : decode cX2_answer 55 = .ok (.ireturn, 1) := by decide +kernel
theorem dX2_answer_56 : decode cX2_answer 56 = .ok (.iload_n 2, 1) := by decide +kernel
theorem dX2_answer_57 : decode cX2_answer 57 = .ok (.ifCond .eq 7, 3) := by decide +kernel
theorem dX2_answer_60 : decode cX2_answer 60 = .ok (.iconst (-1), 1) := by decide +kernel
theorem dX2_answer_61 : decode cX2_answer 61 = .ok (.goto 7, 3) := by decide +kernel
theorem dX2_answer_64 : decode cX2_answer 64 = .ok (.aload_n 0, 1) := by decide +kernel
theorem dX2_answer_65 : decode cX2_answer 65 = .ok (.invokevirtual 157, 3) := by decide +kernel
theorem dX2_answer_68 : decode cX2_answer 68 = .ok (.ireturn, 1) := by decide +kernel
theorem dX2_answer_69 : decode cX2_answer 69 = .ok (.iload_n 2, 1) := by decide +kernel
theorem dX2_answer_70 : decode cX2_answer 70 = .ok (.ifCond .eq 13, 3) := by decide +kernel
theorem dX2_answer_73 : decode cX2_answer 73 = .ok (.aload_n 0, 1) := by decide +kernel
theorem dX2_answer_74 : decode cX2_answer 74 = .ok (.getfield 12, 3) := by decide +kernel
theorem dX2_answer_77 : decode cX2_answer 77 = .ok (.getfield 98, 3) := by decide +kernel
theorem dX2_answer_80 : decode cX2_answer 80 = .ok (.ifCond .ne 5, 3) := by decide +kernel
theorem dX2_answer_83 : decode cX2_answer 83 = .ok (.iconst (-1), 1) := by decide +kernel
theorem dX2_answer_84 : decode cX2_answer 84 = .ok (.ireturn, 1) := by decide +kernel
theorem dX2_answer_85 : decode cX2_answer 85 = .ok (.aload_n 0, 1) := by decide +kernel
theorem dX2_answer_86 : decode cX2_answer 86 = .ok (.invokevirtual 160, 3) := by decide +kernel
theorem dX2_answer_89 : decode cX2_answer 89 = .ok (.iload_n 1, 1) := by decide +kernel
theorem dX2_answer_90 : decode cX2_answer 90 = .ok (.iconst 2, 1) := by decide +kernel
theorem dX2_answer_91 : decode cX2_answer 91 = .ok (.if_icmp .ne 10, 3) := by decide +kernel
theorem dX2_answer_94 : decode cX2_answer 94 = .ok (.aload_n 0, 1) := by decide +kernel
theorem dX2_answer_95 : decode cX2_answer 95 = .ok (.getfield 29, 3) := by decide +kernel
theorem dX2_answer_98 : decode cX2_answer 98 = .ok (.goto 19, 3) := by decide +kernel
theorem dX2_answer_101 : decode cX2_answer 101 = .ok (.iload_n 1, 1) := by decide +kernel
theorem dX2_answer_102 : decode cX2_answer 102 = .ok (.iconst 3, 1) := by decide +kernel
theorem dX2_answer_103 : decode cX2_answer 103 = .ok (.if_icmp .ne 10, 3) := by decide +kernel
theorem dX2_answer_106 : decode cX2_answer 106 = .ok (.aload_n 0, 1) := by decide +kernel
theorem dX2_answer_107 : decode cX2_answer 107 = .ok (.getfield 32, 3) := by decide +kernel
theorem dX2_answer_110 : decode cX2_answer 110 = .ok (.goto 7, 3) := by decide +kernel
theorem dX2_answer_113 : decode cX2_answer 113 = .ok (.aload_n 0, 1) := by decide +kernel
theorem dX2_answer_114 : decode cX2_answer 114 = .ok (.getfield 35, 3) := by decide +kernel
theorem dX2_answer_117 : decode cX2_answer 117 = .ok (.ireturn, 1) := by decide +kernel
theorem dX2_nextRun_0 : decode cX2_nextRun 0 = .ok (.aload_n 0, 1) := by decide +kernel
theorem dX2_nextRun_1 : decode cX2_nextRun 1 = .ok (.getfield 49, 3) := by decide +kernel
theorem dX2_nextRun_4 : decode cX2_nextRun 4 = .ok (.iload_n 1, 1) := by decide +kernel
theorem dX2_nextRun_5 : decode cX2_nextRun 5 = .ok (.baload, 1) := by decide +kernel
theorem dX2_nextRun_6 : decode cX2_nextRun 6 = .ok (.iconst 3, 1) := by decide +kernel
theorem dX2_nextRun_7 : decode cX2_nextRun 7 = .ok (.if_icmp .ne 7, 3) := by decide +kernel
theorem dX2_nextRun_10 : decode cX2_nextRun 10 = .ok (.iconst 1, 1) := by decide +kernel
theorem dX2_nextRun_11 : decode cX2_nextRun 11 = .ok (.goto 4, 3) := by decide +kernel
theorem dX2_nextRun_14 : decode cX2_nextRun 14 = .ok (.iconst 0, 1) := by decide +kernel
theorem dX2_nextRun_15 : decode cX2_nextRun 15 = .ok (.istore_n 2, 1) := by decide +kernel
theorem dX2_nextRun_16 : decode cX2_nextRun 16 = .ok (.iload_n 2, 1) := by decide +kernel
theorem dX2_nextRun_17 : decode cX2_nextRun 17 = .ok (.ifCond .ne 27, 3) := by decide +kernel
theorem dX2_nextRun_20 : decode cX2_nextRun 20 = .ok (.aload_n 0, 1) := by decide +kernel
theorem dX2_nextRun_21 : decode cX2_nextRun 21 = .ok (.getfield 12, 3) := by decide +kernel
theorem dX2_nextRun_24 : decode cX2_nextRun 24 = .ok (.aload_n 0, 1) := by decide +kernel
theorem dX2_nextRun_25 : decode cX2_nextRun 25 = .ok (.getfield 46, 3) := by decide +kernel
theorem dX2_nextRun_28 : decode cX2_nextRun 28 = .ok (.iload_n 1, 1) := by decide +kernel
theorem dX2_nextRun_29 : decode cX2_nextRun 29 = .ok (.saload, 1) := by decide +kernel
theorem dX2_nextRun_30 : decode cX2_nextRun 30 = .ok (.invokestatic 142, 3) := by decide +kernel
theorem dX2_nextRun_33 : decode cX2_nextRun 33 = .ok (.aload_n 0, 1) := by decide +kernel
theorem dX2_nextRun_34 : decode cX2_nextRun 34 = .ok (.getfield 55, 3) := by decide +kernel
theorem dX2_nextRun_37 : decode cX2_nextRun 37 = .ok (.iload_n 1, 1) := by decide +kernel
theorem dX2_nextRun_38 : decode cX2_nextRun 38 = .ok (.saload, 1) := by decide +kernel
theorem dX2_nextRun_39 : decode cX2_nextRun 39 = .ok (.if_icmp .ne 5, 3) := by decide +kernel
theorem dX2_nextRun_42 : decode cX2_nextRun 42 = .ok (.iconst (-1), 1) := by decide +kernel
theorem dX2_nextRun_43 : decode cX2_nextRun 43 = .ok (.ireturn, 1) := by decide +kernel
theorem dX2_nextRun_44 : decode cX2_nextRun 44 = .ok (.iconst 0, 1) := by decide +kernel
theorem dX2_nextRun_45 : decode cX2_nextRun 45 = .ok (.istore_n 3, 1) := by decide +kernel
theorem dX2_nextRun_46 : decode cX2_nextRun 46 = .ok (.iload_n 3, 1) := by decide +kernel
theorem dX2_nextRun_47 : decode cX2_nextRun 47 = .ok (.aload_n 0, 1) := by decide +kernel
theorem dX2_nextRun_48 : decode cX2_nextRun 48 = .ok (.getfield 12, 3) := by decide +kernel
theorem dX2_nextRun_51 : decode cX2_nextRun 51 = .ok (.getfield 98, 3) := by decide +kernel
theorem dX2_nextRun_54 : decode cX2_nextRun 54 = .ok (.if_icmp .ge 69, 3) := by decide +kernel
theorem dX2_nextRun_57 : decode cX2_nextRun 57 = .ok (.aload_n 0, 1) := by decide +kernel
theorem dX2_nextRun_58 : decode cX2_nextRun 58 = .ok (.iload_n 1, 1) := by decide +kernel
theorem dX2_nextRun_59 : decode cX2_nextRun 59 = .ok (.iload_n 3, 1) := by decide +kernel
theorem dX2_nextRun_60 : decode cX2_nextRun 60 = .ok (.invokevirtual 104, 3) := by decide +kernel
theorem dX2_nextRun_63 : decode cX2_nextRun 63 = .ok (.istore 4, 2) := by decide +kernel
theorem dX2_nextRun_65 : decode cX2_nextRun 65 = .ok (.iload 4, 2) := by decide +kernel
theorem dX2_nextRun_67 : decode cX2_nextRun 67 = .ok (.iconst (-1), 1) := by decide +kernel
theorem dX2_nextRun_68 : decode cX2_nextRun 68 = .ok (.if_icmp .ne 6, 3) := by decide +kernel
theorem dX2_nextRun_71 : decode cX2_nextRun 71 = .ok (.goto 46, 3) := by decide +kernel
theorem dX2_nextRun_74 : decode cX2_nextRun 74 = .ok (.iload_n 2, 1) := by decide +kernel
theorem dX2_nextRun_75 : decode cX2_nextRun 75 = .ok (.ifCond .eq 17, 3) := by decide +kernel
theorem dX2_nextRun_78 : decode cX2_nextRun 78 = .ok (.aload_n 0, 1) := by decide +kernel
theorem dX2_nextRun_79 : decode cX2_nextRun 79 = .ok (.getfield 49, 3) := by decide +kernel
theorem dX2_nextRun_82 : decode cX2_nextRun 82 = .ok (.iload 4, 2) := by decide +kernel
theorem dX2_nextRun_84 : decode cX2_nextRun 84 = .ok (.baload, 1) := by decide +kernel
theorem dX2_nextRun_85 : decode cX2_nextRun 85 = .ok (.iconst 3, 1) := by decide +kernel
theorem dX2_nextRun_86 : decode cX2_nextRun 86 = .ok (.if_icmp .ne 31, 3) := by decide +kernel
theorem dX2_nextRun_89 : decode cX2_nextRun 89 = .ok (.goto 26, 3) := by decide +kernel
theorem dX2_nextRun_92 : decode cX2_nextRun 92 = .ok (.aload_n 0, 1) := by decide +kernel
theorem dX2_nextRun_93 : decode cX2_nextRun 93 = .ok (.iload_n 1, 1) := by decide +kernel
theorem dX2_nextRun_94 : decode cX2_nextRun 94 = .ok (.iload_n 3, 1) := by decide +kernel
theorem dX2_nextRun_95 : decode cX2_nextRun 95 = .ok (.invokevirtual 146, 3) := by decide +kernel
theorem dX2_nextRun_98 : decode cX2_nextRun 98 = .ok (.aload_n 0, 1) := by decide +kernel
theorem dX2_nextRun_99 : decode cX2_nextRun 99 = .ok (.getfield 55, 3) := by decide +kernel
theorem dX2_nextRun_102 : decode cX2_nextRun 102 = .ok (.iload 4, 2) := by decide +kernel
theorem dX2_nextRun_104 : decode cX2_nextRun 104 = .ok (.saload, 1) := by decide +kernel
theorem dX2_nextRun_105 : decode cX2_nextRun 105 = .ok (.iadd, 1) := by decide +kernel
theorem dX2_nextRun_106 : decode cX2_nextRun 106 = .ok (.aload_n 0, 1) := by decide +kernel
theorem dX2_nextRun_107 : decode cX2_nextRun 107 = .ok (.getfield 55, 3) := by decide +kernel
theorem dX2_nextRun_110 : decode cX2_nextRun 110 = .ok (.iload_n 1, 1) := by decide +kernel
theorem dX2_nextRun_111 : decode cX2_nextRun 111 = .ok (.saload, 1) := by decide +kernel
theorem dX2_nextRun_112 : decode cX2_nextRun 112 = .ok (.if_icmp .ne 5, 3) := by decide +kernel
theorem dX2_nextRun_115 : decode cX2_nextRun 115 = .ok (.iload_n 3, 1) := by decide +kernel
theorem dX2_nextRun_116 : decode cX2_nextRun 116 = .ok (.ireturn, 1) := by decide +kernel
theorem dX2_nextRun_117 : decode cX2_nextRun 117 = .ok (.iinc 3 1, 3) := by decide +kernel
theorem dX2_nextRun_120 : decode cX2_nextRun 120 = .ok (.goto (-74), 3) := by decide +kernel
theorem dX2_nextRun_123 : decode cX2_nextRun 123 = .ok (.iconst (-1), 1) := by decide +kernel
theorem dX2_nextRun_124 : decode cX2_nextRun 124 = .ok (.ireturn, 1) := by decide +kernel
theorem dX2_rowPlate_0 : decode cX2_rowPlate 0 = .ok (.iconst 0, 1) := by decide +kernel
theorem dX2_rowPlate_1 : decode cX2_rowPlate 1 = .ok (.istore_n 2, 1) := by decide +kernel
theorem dX2_rowPlate_2 : decode cX2_rowPlate 2 = .ok (.iconst 0, 1) := by decide +kernel
theorem dX2_rowPlate_3 : decode cX2_rowPlate 3 = .ok (.istore_n 3, 1) := by decide +kernel
theorem dX2_rowPlate_4 : decode cX2_rowPlate 4 = .ok (.iload_n 3, 1) := by decide +kernel
theorem dX2_rowPlate_5 : decode cX2_rowPlate 5 = .ok (.iload_n 1, 1) := by decide +kernel
theorem dX2_rowPlate_6 : decode cX2_rowPlate 6 = .ok (.if_icmp .gt 38, 3) := by decide +kernel
theorem dX2_rowPlate_9 : decode cX2_rowPlate 9 = .ok (.aload_n 0, 1) := by decide +kernel
theorem dX2_rowPlate_10 : decode cX2_rowPlate 10 = .ok (.iload_n 2, 1) := by decide +kernel
theorem dX2_rowPlate_11 : decode cX2_rowPlate 11 = .ok (.invokevirtual 163, 3) := by decide +kernel
theorem dX2_rowPlate_14 : decode cX2_rowPlate 14 = .ok (.istore 4, 2) := by decide +kernel
theorem dX2_rowPlate_16 : decode cX2_rowPlate 16 = .ok (.iload 4, 2) := by decide +kernel
theorem dX2_rowPlate_18 : decode cX2_rowPlate 18 = .ok (.iconst (-1), 1) := by decide +kernel
theorem dX2_rowPlate_19 : decode cX2_rowPlate 19 = .ok (.if_icmp .eq 8, 3) := by decide +kernel
theorem dX2_rowPlate_22 : decode cX2_rowPlate 22 = .ok (.iload_n 3, 1) := by decide +kernel
theorem dX2_rowPlate_23 : decode cX2_rowPlate 23 = .ok (.iload_n 1, 1) := by decide +kernel
theorem dX2_rowPlate_24 : decode cX2_rowPlate 24 = .ok (.if_icmp .ne 6, 3) := by decide +kernel
theorem dX2_rowPlate_27 : decode cX2_rowPlate 27 = .ok (.iload 4, 2) := by decide +kernel
theorem dX2_rowPlate_29 : decode cX2_rowPlate 29 = .ok (.ireturn, 1) := by decide +kernel
theorem dX2_rowPlate_30 : decode cX2_rowPlate 30 = .ok (.aload_n 0, 1) := by decide +kernel
theorem dX2_rowPlate_31 : decode cX2_rowPlate 31 = .ok (.iload_n 2, 1) := by decide +kernel
theorem dX2_rowPlate_32 : decode cX2_rowPlate 32 = .ok (.iload 4, 2) := by decide +kernel
theorem dX2_rowPlate_34 : decode cX2_rowPlate 34 = .ok (.invokevirtual 104, 3) := by decide +kernel
theorem dX2_rowPlate_37 : decode cX2_rowPlate 37 = .ok (.istore_n 2, 1) := by decide +kernel
theorem dX2_rowPlate_38 : decode cX2_rowPlate 38 = .ok (.iinc 3 1, 3) := by decide +kernel
theorem dX2_rowPlate_41 : decode cX2_rowPlate 41 = .ok (.goto (-37), 3) := by decide +kernel
theorem dX2_rowPlate_44 : decode cX2_rowPlate 44 = .ok (.iconst (-1), 1) := by decide +kernel
theorem dX2_rowPlate_45 : decode cX2_rowPlate 45 = .ok (.ireturn, 1) := by decide +kernel
theorem dX2_rowLength_0 : decode cX2_rowLength 0 = .ok (.iconst 0, 1) := by decide +kernel
theorem dX2_rowLength_1 : decode cX2_rowLength 1 = .ok (.istore_n 1, 1) := by decide +kernel
theorem dX2_rowLength_2 : decode cX2_rowLength 2 = .ok (.iconst 0, 1) := by decide +kernel
theorem dX2_rowLength_3 : decode cX2_rowLength 3 = .ok (.istore_n 2, 1) := by decide +kernel
theorem dX2_rowLength_4 : decode cX2_rowLength 4 = .ok (.iload_n 2, 1) := by decide +kernel
theorem dX2_rowLength_5 : decode cX2_rowLength 5 = .ok (.sipush 2200, 3) := by decide +kernel
theorem dX2_rowLength_8 : decode cX2_rowLength 8 = .ok (.if_icmp .ge 29, 3) := by decide +kernel
theorem dX2_rowLength_11 : decode cX2_rowLength 11 = .ok (.aload_n 0, 1) := by decide +kernel
theorem dX2_rowLength_12 : decode cX2_rowLength 12 = .ok (.iload_n 1, 1) := by decide +kernel
theorem dX2_rowLength_13 : decode cX2_rowLength 13 = .ok (.invokevirtual 163, 3) := by decide +kernel
theorem dX2_rowLength_16 : decode cX2_rowLength 16 = .ok (.istore_n 3, 1) := by decide +kernel
theorem dX2_rowLength_17 : decode cX2_rowLength 17 = .ok (.iload_n 3, 1) := by decide +kernel
theorem dX2_rowLength_18 : decode cX2_rowLength 18 = .ok (.iconst (-1), 1) := by decide +kernel
theorem dX2_rowLength_19 : decode cX2_rowLength 19 = .ok (.if_icmp .ne 5, 3) := by decide +kernel
theorem dX2_rowLength_22 : decode cX2_rowLength 22 = .ok (.iload_n 2, 1) := by decide +kernel
theorem dX2_rowLength_23 : decode cX2_rowLength 23 = .ok (.ireturn, 1) := by decide +kernel
theorem dX2_rowLength_24 : decode cX2_rowLength 24 = .ok (.aload_n 0, 1) := by decide +kernel
theorem dX2_rowLength_25 : decode cX2_rowLength 25 = .ok (.iload_n 1, 1) := by decide +kernel
theorem dX2_rowLength_26 : decode cX2_rowLength 26 = .ok (.iload_n 3, 1) := by decide +kernel
theorem dX2_rowLength_27 : decode cX2_rowLength 27 = .ok (.invokevirtual 104, 3) := by decide +kernel
theorem dX2_rowLength_30 : decode cX2_rowLength 30 = .ok (.istore_n 1, 1) := by decide +kernel
theorem dX2_rowLength_31 : decode cX2_rowLength 31 = .ok (.iinc 2 1, 3) := by decide +kernel
theorem dX2_rowLength_34 : decode cX2_rowLength 34 = .ok (.goto (-30), 3) := by decide +kernel
theorem dX2_rowLength_37 : decode cX2_rowLength 37 = .ok (.sipush 2200, 3) := by decide +kernel
theorem dX2_rowLength_40 : decode cX2_rowLength 40 = .ok (.ireturn, 1) := by decide +kernel
theorem dX2_findRound_0 : decode cX2_findRound 0 = .ok (.iconst 0, 1) := by decide +kernel
theorem dX2_findRound_1 : decode cX2_findRound 1 = .ok (.istore_n 1, 1) := by decide +kernel
theorem dX2_findRound_2 : decode cX2_findRound 2 = .ok (.iload_n 1, 1) := by decide +kernel
theorem dX2_findRound_3 : decode cX2_findRound 3 = .ok (.aload_n 0, 1) := by decide +kernel
theorem dX2_findRound_4 : decode cX2_findRound 4 = .ok (.getfield 22, 3) := by decide +kernel
theorem dX2_findRound_7 : decode cX2_findRound 7 = .ok (.if_icmp .ge 16, 3) := by decide +kernel
theorem dX2_findRound_10 : decode cX2_findRound 10 = .ok (.aload_n 0, 1) := by decide +kernel
theorem dX2_findRound_11 : decode cX2_findRound 11 = .ok (.getfield 64, 3) := by decide +kernel
theorem dX2_findRound_14 : decode cX2_findRound 14 = .ok (.iload_n 1, 1) := by decide +kernel
theorem dX2_findRound_15 : decode cX2_findRound 15 = .ok (.iconst (-1), 1) := by decide +kernel
theorem dX2_findRound_16 : decode cX2_findRound 16 = .ok (.sastore, 1) := by decide +kernel
theorem dX2_findRound_17 : decode cX2_findRound 17 = .ok (.iinc 1 1, 3) := by decide +kernel
theorem dX2_findRound_20 : decode cX2_findRound 20 = .ok (.goto (-18), 3) := by decide +kernel
theorem dX2_findRound_23 : decode cX2_findRound 23 = .ok (.iconst 0, 1) := by decide +kernel
theorem dX2_findRound_24 : decode cX2_findRound 24 = .ok (.istore_n 1, 1) := by decide +kernel
theorem dX2_findRound_25 : decode cX2_findRound 25 = .ok (.iconst 0, 1) := by decide +kernel
theorem dX2_findRound_26 : decode cX2_findRound 26 = .ok (.istore_n 2, 1) := by decide +kernel
theorem dX2_findRound_27 : decode cX2_findRound 27 = .ok (.iconst 0, 1) := by decide +kernel
theorem dX2_findRound_28 : decode cX2_findRound 28 = .ok (.istore_n 3, 1) := by decide +kernel
theorem dX2_findRound_29 : decode cX2_findRound 29 = .ok (.iload_n 3, 1) := by decide +kernel
theorem dX2_findRound_30 : decode cX2_findRound 30 = .ok (.sipush 2200, 3) := by decide +kernel
theorem dX2_findRound_33 : decode cX2_findRound 33 = .ok (.if_icmp .gt 99, 3) := by decide +kernel
theorem dX2_findRound_36 : decode cX2_findRound 36 = .ok (.aload_n 0, 1) := by decide +kernel
theorem dX2_findRound_37 : decode cX2_findRound 37 = .ok (.iload_n 1, 1) := by decide +kernel
theorem dX2_findRound_38 : decode cX2_findRound 38 = .ok (.invokevirtual 163, 3) := by decide +kernel
theorem dX2_findRound_41 : decode cX2_findRound 41 = .ok (.istore 4, 2) := by decide +kernel
theorem dX2_findRound_43 : decode cX2_findRound 43 = .ok (.aload_n 0, 1) := by decide +kernel
theorem dX2_findRound_44 : decode cX2_findRound 44 = .ok (.getfield 64, 3) := by decide +kernel
theorem dX2_findRound_47 : decode cX2_findRound 47 = .ok (.iload_n 1, 1) := by decide +kernel
theorem dX2_findRound_48 : decode cX2_findRound 48 = .ok (.saload, 1) := by decide +kernel
theorem dX2_findRound_49 : decode cX2_findRound 49 = .ok (.iconst (-1), 1) := by decide +kernel
theorem dX2_findRound_50 : decode cX2_findRound 50 = .ok (.if_icmp .ne 9, 3) := by decide +kernel
theorem dX2_findRound_53 : decode cX2_findRound 53 = .ok (.iload 4, 2) := by decide +kernel
theorem dX2_findRound_55 : decode cX2_findRound 55 = .ok (.iconst (-1), 1) := by decide +kernel
theorem dX2_findRound_56 : decode cX2_findRound 56 = .ok (.if_icmp .ne 36, 3) := by decide +kernel
theorem dX2_findRound_59 : decode cX2_findRound 59 = .ok (.aload_n 0, 1) := by decide +kernel
theorem dX2_findRound_60 : decode cX2_findRound 60 = .ok (.aload_n 0, 1) := by decide +kernel
theorem dX2_findRound_61 : decode cX2_findRound 61 = .ok (.getfield 64, 3) := by decide +kernel
theorem dX2_findRound_64 : decode cX2_findRound 64 = .ok (.iload_n 1, 1) := by decide +kernel
theorem dX2_findRound_65 : decode cX2_findRound 65 = .ok (.saload, 1) := by decide +kernel
theorem dX2_findRound_66 : decode cX2_findRound 66 = .ok (.putfield 29, 3) := by decide +kernel
theorem dX2_findRound_69 : decode cX2_findRound 69 = .ok (.aload_n 0, 1) := by decide +kernel
theorem dX2_findRound_70 : decode cX2_findRound 70 = .ok (.iload_n 3, 1) := by decide +kernel
theorem dX2_findRound_71 : decode cX2_findRound 71 = .ok (.aload_n 0, 1) := by decide +kernel
theorem dX2_findRound_72 : decode cX2_findRound 72 = .ok (.getfield 29, 3) := by decide +kernel
theorem dX2_findRound_75 : decode cX2_findRound 75 = .ok (.isub, 1) := by decide +kernel
theorem dX2_findRound_76 : decode cX2_findRound 76 = .ok (.putfield 32, 3) := by decide +kernel
theorem dX2_findRound_79 : decode cX2_findRound 79 = .ok (.aload_n 0, 1) := by decide +kernel
theorem dX2_findRound_80 : decode cX2_findRound 80 = .ok (.iload_n 2, 1) := by decide +kernel
theorem dX2_findRound_81 : decode cX2_findRound 81 = .ok (.aload_n 0, 1) := by decide +kernel
theorem dX2_findRound_82 : decode cX2_findRound 82 = .ok (.getfield 67, 3) := by decide +kernel
theorem dX2_findRound_85 : decode cX2_findRound 85 = .ok (.iload_n 1, 1) := by decide +kernel
theorem dX2_findRound_86 : decode cX2_findRound 86 = .ok (.saload, 1) := by decide +kernel
theorem dX2_findRound_87 : decode cX2_findRound 87 = .ok (.isub, 1) := by decide +kernel
theorem dX2_findRound_88 : decode cX2_findRound 88 = .ok (.putfield 35, 3) := by decide +kernel
theorem dX2_findRound_91 : decode cX2_findRound 91 = .ok (.return_, 1) := by decide +kernel
theorem dX2_findRound_92 : decode cX2_findRound 92 = .ok (.aload_n 0, 1) := by decide +kernel
theorem dX2_findRound_93 : decode cX2_findRound 93 = .ok (.getfield 64, 3) := by decide +kernel
theorem dX2_findRound_96 : decode cX2_findRound 96 = .ok (.iload_n 1, 1) := by decide +kernel
theorem dX2_findRound_97 : decode cX2_findRound 97 = .ok (.iload_n 3, 1) := by decide +kernel
theorem dX2_findRound_98 : decode cX2_findRound 98 = .ok (.i2s, 1) := by decide +kernel
theorem dX2_findRound_99 : decode cX2_findRound 99 = .ok (.sastore, 1) := by decide +kernel
theorem dX2_findRound_100 : decode cX2_findRound 100 = .ok (.aload_n 0, 1) := by decide +kernel
theorem dX2_findRound_101 : decode cX2_findRound 101 = .ok (.getfield 67, 3) := by decide +kernel
theorem dX2_findRound_104 : decode cX2_findRound 104 = .ok (.iload_n 1, 1) := by decide +kernel
theorem dX2_findRound_105 : decode cX2_findRound 105 = .ok (.iload_n 2, 1) := by decide +kernel
theorem dX2_findRound_106 : decode cX2_findRound 106 = .ok (.i2s, 1) := by decide +kernel
theorem dX2_findRound_107 : decode cX2_findRound 107 = .ok (.sastore, 1) := by decide +kernel
theorem dX2_findRound_108 : decode cX2_findRound 108 = .ok (.iload_n 2, 1) := by decide +kernel
theorem dX2_findRound_109 : decode cX2_findRound 109 = .ok (.aload_n 0, 1) := by decide +kernel
theorem dX2_findRound_110 : decode cX2_findRound 110 = .ok (.iload_n 1, 1) := by decide +kernel
theorem dX2_findRound_111 : decode cX2_findRound 111 = .ok (.iload 4, 2) := by decide +kernel
theorem dX2_findRound_113 : decode cX2_findRound 113 = .ok (.invokevirtual 146, 3) := by decide +kernel
theorem dX2_findRound_116 : decode cX2_findRound 116 = .ok (.iadd, 1) := by decide +kernel
theorem dX2_findRound_117 : decode cX2_findRound 117 = .ok (.istore_n 2, 1) := by decide +kernel
theorem dX2_findRound_118 : decode cX2_findRound 118 = .ok (.aload_n 0, 1) := by decide +kernel
theorem dX2_findRound_119 : decode cX2_findRound 119 = .ok (.iload_n 1, 1) := by decide +kernel
theorem dX2_findRound_120 : decode cX2_findRound 120 = .ok (.iload 4, 2) := by decide +kernel
theorem dX2_findRound_122 : decode cX2_findRound 122 = .ok (.invokevirtual 104, 3) := by decide +kernel
theorem dX2_findRound_125 : decode cX2_findRound 125 = .ok (.istore_n 1, 1) := by decide +kernel
theorem dX2_findRound_126 : decode cX2_findRound 126 = .ok (.iinc 3 1, 3) := by decide +kernel
theorem dX2_findRound_129 : decode cX2_findRound 129 = .ok (.goto (-100), 3) := by decide +kernel
theorem dX2_findRound_132 : decode cX2_findRound 132 = .ok (.return_, 1) := by decide +kernel
theorem dX3_init_0 : decode cX3_init 0 = .ok (.aload_n 0, 1) := by decide +kernel
theorem dX3_init_1 : decode cX3_init 1 = .ok (.invokespecial 3, 3) := by decide +kernel
theorem dX3_init_4 : decode cX3_init 4 = .ok (.aload_n 0, 1) := by decide +kernel
theorem dX3_init_5 : decode cX3_init 5 = .ok (.iconst 1, 1) := by decide +kernel
theorem dX3_init_6 : decode cX3_init 6 = .ok (.putfield 9, 3) := by decide +kernel
theorem dX3_init_9 : decode cX3_init 9 = .ok (.aload_n 0, 1) := by decide +kernel
theorem dX3_init_10 : decode cX3_init 10 = .ok (.iconst 0, 1) := by decide +kernel
theorem dX3_init_11 : decode cX3_init 11 = .ok (.putfield 15, 3) := by decide +kernel
theorem dX3_init_14 : decode cX3_init 14 = .ok (.aload_n 0, 1) := by decide +kernel
theorem dX3_init_15 : decode cX3_init 15 = .ok (.bipush 8, 2) := by decide +kernel
theorem dX3_init_17 : decode cX3_init 17 = .ok (.newarray .int, 2) := by decide +kernel
theorem dX3_init_19 : decode cX3_init 19 = .ok (.putfield 18, 3) := by decide +kernel
theorem dX3_init_22 : decode cX3_init 22 = .ok (.aload_n 0, 1) := by decide +kernel
theorem dX3_init_23 : decode cX3_init 23 = .ok (.bipush 8, 2) := by decide +kernel
theorem dX3_init_25 : decode cX3_init 25 = .ok (.newarray .int, 2) := by decide +kernel
theorem dX3_init_27 : decode cX3_init 27 = .ok (.putfield 22, 3) := by decide +kernel
theorem dX3_init_30 : decode cX3_init 30 = .ok (.aload_n 0, 1) := by decide +kernel
theorem dX3_init_31 : decode cX3_init 31 = .ok (.bipush 8, 2) := by decide +kernel
theorem dX3_init_33 : decode cX3_init 33 = .ok (.newarray .int, 2) := by decide +kernel
theorem dX3_init_35 : decode cX3_init 35 = .ok (.putfield 25, 3) := by decide +kernel
theorem dX3_init_38 : decode cX3_init 38 = .ok (.return_, 1) := by decide +kernel
theorem dX3_clear_0 : decode cX3_clear 0 = .ok (.aload_n 0, 1) := by decide +kernel
theorem dX3_clear_1 : decode cX3_clear 1 = .ok (.iconst 1, 1) := by decide +kernel
theorem dX3_clear_2 : decode cX3_clear 2 = .ok (.putfield 9, 3) := by decide +kernel
theorem dX3_clear_5 : decode cX3_clear 5 = .ok (.aload_n 0, 1) := by decide +kernel
theorem dX3_clear_6 : decode cX3_clear 6 = .ok (.iconst 0, 1) := by decide +kernel
theorem dX3_clear_7 : decode cX3_clear 7 = .ok (.putfield 15, 3) := by decide +kernel
theorem dX3_clear_10 : decode cX3_clear 10 = .ok (.return_, 1) := by decide +kernel
theorem dX3_add_0 : decode cX3_add 0 = .ok (.aload_n 0, 1) := by decide +kernel
theorem dX3_add_1 : decode cX3_add 1 = .ok (.getfield 15, 3) := by decide +kernel
theorem dX3_add_4 : decode cX3_add 4 = .ok (.bipush 8, 2) := by decide +kernel
theorem dX3_add_6 : decode cX3_add 6 = .ok (.if_icmp .lt 4, 3) := by decide +kernel
theorem dX3_add_9 : decode cX3_add 9 = .ok (.return_, 1) := by decide +kernel
theorem dX3_add_10 : decode cX3_add 10 = .ok (.aload_n 0, 1) := by decide +kernel
theorem dX3_add_11 : decode cX3_add 11 = .ok (.getfield 18, 3) := by decide +kernel
theorem dX3_add_14 : decode cX3_add 14 = .ok (.aload_n 0, 1) := by decide +kernel
theorem dX3_add_15 : decode cX3_add 15 = .ok (.getfield 15, 3) := by decide +kernel
theorem dX3_add_18 : decode cX3_add 18 = .ok (.iload_n 1, 1) := by decide +kernel
theorem dX3_add_19 : decode cX3_add 19 = .ok (.iastore, 1) := by decide +kernel
theorem dX3_add_20 : decode cX3_add 20 = .ok (.aload_n 0, 1) := by decide +kernel
theorem dX3_add_21 : decode cX3_add 21 = .ok (.getfield 22, 3) := by decide +kernel
theorem dX3_add_24 : decode cX3_add 24 = .ok (.aload_n 0, 1) := by decide +kernel
theorem dX3_add_25 : decode cX3_add 25 = .ok (.getfield 15, 3) := by decide +kernel
theorem dX3_add_28 : decode cX3_add 28 = .ok (.iload_n 2, 1) := by decide +kernel
theorem dX3_add_29 : decode cX3_add 29 = .ok (.iastore, 1) := by decide +kernel
theorem dX3_add_30 : decode cX3_add 30 = .ok (.aload_n 0, 1) := by decide +kernel
theorem dX3_add_31 : decode cX3_add 31 = .ok (.getfield 25, 3) := by decide +kernel
theorem dX3_add_34 : decode cX3_add 34 = .ok (.aload_n 0, 1) := by decide +kernel
theorem dX3_add_35 : decode cX3_add 35 = .ok (.getfield 15, 3) := by decide +kernel
theorem dX3_add_38 : decode cX3_add 38 = .ok (.iload_n 3, 1) := by decide +kernel
theorem dX3_add_39 : decode cX3_add 39 = .ok (.iastore, 1) := by decide +kernel
theorem dX3_add_40 : decode cX3_add 40 = .ok (.aload_n 0, 1) := by decide +kernel
theorem dX3_add_41 : decode cX3_add 41 = .ok (.dup, 1) := by decide +kernel
theorem dX3_add_42 : decode cX3_add 42 = .ok (.getfield 15, 3) := by decide +kernel
theorem dX3_add_45 : decode cX3_add 45 = .ok (.iconst 1, 1) := by decide +kernel
theorem dX3_add_46 : decode cX3_add 46 = .ok (.iadd, 1) := by decide +kernel
theorem dX3_add_47 : decode cX3_add 47 = .ok (.putfield 15, 3) := by decide +kernel
theorem dX3_add_50 : decode cX3_add 50 = .ok (.return_, 1) := by decide +kernel
theorem dX3_factPart_0 : decode cX3_factPart 0 = .ok (.iload_n 1, 1) := by decide +kernel
theorem dX3_factPart_1 : decode cX3_factPart 1 = .ok (.bipush 10, 2) := by decide +kernel
theorem dX3_factPart_3 : decode cX3_factPart 3 = .ok (.irem, 1) := by decide +kernel
theorem dX3_factPart_4 : decode cX3_factPart 4 = .ok (.istore_n 2, 1) := by decide +kernel
theorem dX3_factPart_5 : decode cX3_factPart 5 = .ok (.iload_n 2, 1) := by decide +kernel
theorem dX3_factPart_6 : decode cX3_factPart 6 = .ok (.ifCond .lt 11, 3) := by decide +kernel
theorem dX3_factPart_9 : decode cX3_factPart 9 = .ok (.iload_n 2, 1) := by decide +kernel
theorem dX3_factPart_10 : decode cX3_factPart 10 = .ok (.aload_n 0, 1) := by decide +kernel
theorem dX3_factPart_11 : decode cX3_factPart 11 = .ok (.getfield 15, 3) := by decide +kernel
theorem dX3_factPart_14 : decode cX3_factPart 14 = .ok (.if_icmp .lt 5, 3) := by decide +kernel
theorem dX3_factPart_17 : decode cX3_factPart 17 = .ok (.iconst (-1), 1) := by decide +kernel
theorem dX3_factPart_18 : decode cX3_factPart 18 = .ok (.ireturn, 1) := by decide +kernel
theorem dX3_factPart_19 : decode cX3_factPart 19 = .ok (.iload_n 1, 1) := by decide +kernel
theorem dX3_factPart_20 : decode cX3_factPart 20 = .ok (.bipush 10, 2) := by decide +kernel
theorem dX3_factPart_22 : decode cX3_factPart 22 = .ok (.idiv, 1) := by decide +kernel
theorem dX3_factPart_23 : decode cX3_factPart 23 = .ok (.tableswitch 46 1 3 #[25, 32, 39], 25) := by decide +kernel
theorem dX3_factPart_48 : decode cX3_factPart 48 = .ok (.aload_n 0, 1) := by decide +kernel
theorem dX3_factPart_49 : decode cX3_factPart 49 = .ok (.getfield 18, 3) := by decide +kernel
theorem dX3_factPart_52 : decode cX3_factPart 52 = .ok (.iload_n 2, 1) := by decide +kernel
theorem dX3_factPart_53 : decode cX3_factPart 53 = .ok (.iaload, 1) := by decide +kernel
theorem dX3_factPart_54 : decode cX3_factPart 54 = .ok (.ireturn, 1) := by decide +kernel
theorem dX3_factPart_55 : decode cX3_factPart 55 = .ok (.aload_n 0, 1) := by decide +kernel
theorem dX3_factPart_56 : decode cX3_factPart 56 = .ok (.getfield 22, 3) := by decide +kernel
theorem dX3_factPart_59 : decode cX3_factPart 59 = .ok (.iload_n 2, 1) := by decide +kernel
theorem dX3_factPart_60 : decode cX3_factPart 60 = .ok (.iaload, 1) := by decide +kernel
theorem dX3_factPart_61 : decode cX3_factPart 61 = .ok (.ireturn, 1) := by decide +kernel
theorem dX3_factPart_62 : decode cX3_factPart 62 = .ok (.aload_n 0, 1) := by decide +kernel
theorem dX3_factPart_63 : decode cX3_factPart 63 = .ok (.getfield 25, 3) := by decide +kernel
theorem dX3_factPart_66 : decode cX3_factPart 66 = .ok (.iload_n 2, 1) := by decide +kernel
theorem dX3_factPart_67 : decode cX3_factPart 67 = .ok (.iaload, 1) := by decide +kernel
theorem dX3_factPart_68 : decode cX3_factPart 68 = .ok (.ireturn, 1) := by decide +kernel
theorem dX3_factPart_69 : decode cX3_factPart 69 = .ok (.iconst (-1), 1) := by decide +kernel
theorem dX3_factPart_70 : decode cX3_factPart 70 = .ok (.ireturn, 1) := by decide +kernel
theorem dX3_copyFrom_0 : decode cX3_copyFrom 0 = .ok (.aload_n 0, 1) := by decide +kernel
theorem dX3_copyFrom_1 : decode cX3_copyFrom 1 = .ok (.aload_n 1, 1) := by decide +kernel
theorem dX3_copyFrom_2 : decode cX3_copyFrom 2 = .ok (.getfield 9, 3) := by decide +kernel
theorem dX3_copyFrom_5 : decode cX3_copyFrom 5 = .ok (.putfield 9, 3) := by decide +kernel
theorem dX3_copyFrom_8 : decode cX3_copyFrom 8 = .ok (.aload_n 0, 1) := by decide +kernel
theorem dX3_copyFrom_9 : decode cX3_copyFrom 9 = .ok (.aload_n 1, 1) := by decide +kernel
theorem dX3_copyFrom_10 : decode cX3_copyFrom 10 = .ok (.getfield 15, 3) := by decide +kernel
theorem dX3_copyFrom_13 : decode cX3_copyFrom 13 = .ok (.putfield 15, 3) := by decide +kernel
theorem dX3_copyFrom_16 : decode cX3_copyFrom 16 = .ok (.aload_n 1, 1) := by decide +kernel
theorem dX3_copyFrom_17 : decode cX3_copyFrom 17 = .ok (.getfield 18, 3) := by decide +kernel
theorem dX3_copyFrom_20 : decode cX3_copyFrom 20 = .ok (.iconst 0, 1) := by decide +kernel
theorem dX3_copyFrom_21 : decode cX3_copyFrom 21 = .ok (.aload_n 0, 1) := by decide +kernel
theorem dX3_copyFrom_22 : decode cX3_copyFrom 22 = .ok (.getfield 18, 3) := by decide +kernel
theorem dX3_copyFrom_25 : decode cX3_copyFrom 25 = .ok (.iconst 0, 1) := by decide +kernel
theorem dX3_copyFrom_26 : decode cX3_copyFrom 26 = .ok (.bipush 8, 2) := by decide +kernel
theorem dX3_copyFrom_28 : decode cX3_copyFrom 28 = .ok (.invokestatic 28, 3) := by decide +kernel
theorem dX3_copyFrom_31 : decode cX3_copyFrom 31 = .ok (.aload_n 1, 1) := by decide +kernel
theorem dX3_copyFrom_32 : decode cX3_copyFrom 32 = .ok (.getfield 22, 3) := by decide +kernel
theorem dX3_copyFrom_35 : decode cX3_copyFrom 35 = .ok (.iconst 0, 1) := by decide +kernel
theorem dX3_copyFrom_36 : decode cX3_copyFrom 36 = .ok (.aload_n 0, 1) := by decide +kernel
theorem dX3_copyFrom_37 : decode cX3_copyFrom 37 = .ok (.getfield 22, 3) := by decide +kernel
theorem dX3_copyFrom_40 : decode cX3_copyFrom 40 = .ok (.iconst 0, 1) := by decide +kernel
theorem dX3_copyFrom_41 : decode cX3_copyFrom 41 = .ok (.bipush 8, 2) := by decide +kernel
theorem dX3_copyFrom_43 : decode cX3_copyFrom 43 = .ok (.invokestatic 28, 3) := by decide +kernel
theorem dX3_copyFrom_46 : decode cX3_copyFrom 46 = .ok (.aload_n 1, 1) := by decide +kernel
theorem dX3_copyFrom_47 : decode cX3_copyFrom 47 = .ok (.getfield 25, 3) := by decide +kernel
theorem dX3_copyFrom_50 : decode cX3_copyFrom 50 = .ok (.iconst 0, 1) := by decide +kernel
theorem dX3_copyFrom_51 : decode cX3_copyFrom 51 = .ok (.aload_n 0, 1) := by decide +kernel
theorem dX3_copyFrom_52 : decode cX3_copyFrom 52 = .ok (.getfield 25, 3) := by decide +kernel
theorem dX3_copyFrom_55 : decode cX3_copyFrom 55 = .ok (.iconst 0, 1) := by decide +kernel
theorem dX3_copyFrom_56 : decode cX3_copyFrom 56 = .ok (.bipush 8, 2) := by decide +kernel
theorem dX3_copyFrom_58 : decode cX3_copyFrom 58 = .ok (.invokestatic 28, 3) := by decide +kernel
theorem dX3_copyFrom_61 : decode cX3_copyFrom 61 = .ok (.return_, 1) := by decide +kernel
theorem dX4_init_0 : decode cX4_init 0 = .ok (.aload_n 0, 1) := by decide +kernel
theorem dX4_init_1 : decode cX4_init 1 = .ok (.invokespecial 3, 3) := by decide +kernel
theorem dX4_init_4 : decode cX4_init 4 = .ok (.aload_n 0, 1) := by decide +kernel
theorem dX4_init_5 : decode cX4_init 5 = .ok (.new 9, 3) := by decide +kernel
theorem dX4_init_8 : decode cX4_init 8 = .ok (.dup, 1) := by decide +kernel
theorem dX4_init_9 : decode cX4_init 9 = .ok (.invokespecial 11, 3) := by decide +kernel
theorem dX4_init_12 : decode cX4_init 12 = .ok (.putfield 12, 3) := by decide +kernel
theorem dX4_init_15 : decode cX4_init 15 = .ok (.aload_n 0, 1) := by decide +kernel
theorem dX4_init_16 : decode cX4_init 16 = .ok (.iconst 5, 1) := by decide +kernel
theorem dX4_init_17 : decode cX4_init 17 = .ok (.newarray .int, 2) := by decide +kernel
theorem dX4_init_19 : decode cX4_init 19 = .ok (.putfield 18, 3) := by decide +kernel
theorem dX4_init_22 : decode cX4_init 22 = .ok (.aload_n 0, 1) := by decide +kernel
theorem dX4_init_23 : decode cX4_init 23 = .ok (.iconst 0, 1) := by decide +kernel
theorem dX4_init_24 : decode cX4_init 24 = .ok (.putfield 22, 3) := by decide +kernel
theorem dX4_init_27 : decode cX4_init 27 = .ok (.aload_n 0, 1) := by decide +kernel
theorem dX4_init_28 : decode cX4_init 28 = .ok (.iconst 0, 1) := by decide +kernel
theorem dX4_init_29 : decode cX4_init 29 = .ok (.putfield 26, 3) := by decide +kernel
theorem dX4_init_32 : decode cX4_init 32 = .ok (.aload_n 0, 1) := by decide +kernel
theorem dX4_init_33 : decode cX4_init 33 = .ok (.iconst 0, 1) := by decide +kernel
theorem dX4_init_34 : decode cX4_init 34 = .ok (.putfield 29, 3) := by decide +kernel
theorem dX4_init_37 : decode cX4_init 37 = .ok (.aload_n 0, 1) := by decide +kernel
theorem dX4_init_38 : decode cX4_init 38 = .ok (.iconst 0, 1) := by decide +kernel
theorem dX4_init_39 : decode cX4_init 39 = .ok (.putfield 32, 3) := by decide +kernel
theorem dX4_init_42 : decode cX4_init 42 = .ok (.aload_n 0, 1) := by decide +kernel
theorem dX4_init_43 : decode cX4_init 43 = .ok (.iconst 0, 1) := by decide +kernel
theorem dX4_init_44 : decode cX4_init 44 = .ok (.putfield 35, 3) := by decide +kernel
theorem dX4_init_47 : decode cX4_init 47 = .ok (.aload_n 0, 1) := by decide +kernel
theorem dX4_init_48 : decode cX4_init 48 = .ok (.iconst 0, 1) := by decide +kernel
theorem dX4_init_49 : decode cX4_init 49 = .ok (.putfield 38, 3) := by decide +kernel
theorem dX4_init_52 : decode cX4_init 52 = .ok (.aload_n 0, 1) := by decide +kernel
theorem dX4_init_53 : decode cX4_init 53 = .ok (.iconst (-1), 1) := by decide +kernel
theorem dX4_init_54 : decode cX4_init 54 = .ok (.putfield 41, 3) := by decide +kernel
theorem dX4_init_57 : decode cX4_init 57 = .ok (.aload_n 0, 1) := by decide +kernel
theorem dX4_init_58 : decode cX4_init 58 = .ok (.iconst 0, 1) := by decide +kernel
theorem dX4_init_59 : decode cX4_init 59 = .ok (.putfield 44, 3) := by decide +kernel
theorem dX4_init_62 : decode cX4_init 62 = .ok (.aload_n 0, 1) := by decide +kernel
theorem dX4_init_63 : decode cX4_init 63 = .ok (.iconst 0, 1) := by decide +kernel
theorem dX4_init_64 : decode cX4_init 64 = .ok (.putfield 47, 3) := by decide +kernel
theorem dX4_init_67 : decode cX4_init 67 = .ok (.aload_n 0, 1) := by decide +kernel
theorem dX4_init_68 : decode cX4_init 68 = .ok (.iconst 0, 1) := by decide +kernel
theorem dX4_init_69 : decode cX4_init 69 = .ok (.putfield 50, 3) := by decide +kernel
theorem dX4_init_72 : decode cX4_init 72 = .ok (.aload_n 0, 1) := by decide +kernel
theorem dX4_init_73 : decode cX4_init 73 = .ok (.iconst 0, 1) := by decide +kernel
theorem dX4_init_74 : decode cX4_init 74 = .ok (.putfield 53, 3) := by decide +kernel
theorem dX4_init_77 : decode cX4_init 77 = .ok (.return_, 1) := by decide +kernel
theorem dX4_play_0 : decode cX4_play 0 = .ok (.aload_n 0, 1) := by decide +kernel
theorem dX4_play_1 : decode cX4_play 1 = .ok (.aload_n 1, 1) := by decide +kernel
theorem dX4_play_2 : decode cX4_play 2 = .ok (.invokevirtual 56, 3) := by decide +kernel
theorem dX4_play_5 : decode cX4_play 5 = .ok (.iconst 0, 1) := by decide +kernel
theorem dX4_play_6 : decode cX4_play 6 = .ok (.istore 4, 2) := by decide +kernel
theorem dX4_play_8 : decode cX4_play 8 = .ok (.iload 4, 2) := by decide +kernel
theorem dX4_play_10 : decode cX4_play 10 = .ok (.iload_n 3, 1) := by decide +kernel
theorem dX4_play_11 : decode cX4_play 11 = .ok (.if_icmp .ge 81, 3) := by decide +kernel
theorem dX4_play_14 : decode cX4_play 14 = .ok (.aload_n 2, 1) := by decide +kernel
theorem dX4_play_15 : decode cX4_play 15 = .ok (.iload 4, 2) := by decide +kernel
theorem dX4_play_17 : decode cX4_play 17 = .ok (.invokevirtual 60, 3) := by decide +kernel
theorem dX4_play_20 : decode cX4_play 20 = .ok (.ifCond .eq 72, 3) := by decide +kernel
theorem dX4_play_23 : decode cX4_play 23 = .ok (.aload_n 0, 1) := by decide +kernel
theorem dX4_play_24 : decode cX4_play 24 = .ok (.aload_n 2, 1) := by decide +kernel
theorem dX4_play_25 : decode cX4_play 25 = .ok (.getfield 66, 3) := by decide +kernel
theorem dX4_play_28 : decode cX4_play 28 = .ok (.iload 4, 2) := by decide +kernel
theorem dX4_play_30 : decode cX4_play 30 = .ok (.iaload, 1) := by decide +kernel
theorem dX4_play_31 : decode cX4_play 31 = .ok (.aload_n 2, 1) := by decide +kernel
theorem dX4_play_32 : decode cX4_play 32 = .ok (.getfield 69, 3) := by decide +kernel
theorem dX4_play_35 : decode cX4_play 35 = .ok (.iload 4, 2) := by decide +kernel
theorem dX4_play_37 : decode cX4_play 37 = .ok (.iaload, 1) := by decide +kernel
theorem dX4_play_38 : decode cX4_play 38 = .ok (.invokevirtual 72, 3) := by decide +kernel
theorem dX4_play_41 : decode cX4_play 41 = .ok (.ifCond .ne 6, 3) := by decide +kernel
theorem dX4_play_44 : decode cX4_play 44 = .ok (.iload 4, 2) := by decide +kernel
theorem dX4_play_46 : decode cX4_play 46 = .ok (.ireturn, 1) := by decide +kernel
theorem dX4_play_47 : decode cX4_play 47 = .ok (.aload_n 0, 1) := by decide +kernel
theorem dX4_play_48 : decode cX4_play 48 = .ok (.aload_n 2, 1) := by decide +kernel
theorem dX4_play_49 : decode cX4_play 49 = .ok (.getfield 66, 3) := by decide +kernel
theorem dX4_play_52 : decode cX4_play 52 = .ok (.iload 4, 2) := by decide +kernel
theorem dX4_play_54 : decode cX4_play 54 = .ok (.iaload, 1) := by decide +kernel
theorem dX4_play_55 : decode cX4_play 55 = .ok (.aload_n 2, 1) := by decide +kernel
theorem dX4_play_56 : decode cX4_play 56 = .ok (.getfield 69, 3) := by decide +kernel
theorem dX4_play_59 : decode cX4_play 59 = .ok (.iload 4, 2) := by decide +kernel
theorem dX4_play_61 : decode cX4_play 61 = .ok (.iaload, 1) := by decide +kernel
theorem dX4_play_62 : decode cX4_play 62 = .ok (.invokevirtual 76, 3) := by decide +kernel
theorem dX4_play_65 : decode cX4_play 65 = .ok (.aload_n 0, 1) := by decide +kernel
theorem dX4_play_66 : decode cX4_play 66 = .ok (.getfield 29, 3) := by decide +kernel
theorem dX4_play_69 : decode cX4_play 69 = .ok (.ifCond .le 17, 3) := by decide +kernel
theorem dX4_play_72 : decode cX4_play 72 = .ok (.aload_n 0, 1) := by decide +kernel
theorem dX4_play_73 : decode cX4_play 73 = .ok (.getfield 41, 3) := by decide +kernel
theorem dX4_play_76 : decode cX4_play 76 = .ok (.iconst (-1), 1) := by decide +kernel
theorem dX4_play_77 : decode cX4_play 77 = .ok (.if_icmp .ne 9, 3) := by decide +kernel
theorem dX4_play_80 : decode cX4_play 80 = .ok (.aload_n 0, 1) := by decide +kernel
theorem dX4_play_81 : decode cX4_play 81 = .ok (.iload 4, 2) := by decide +kernel
theorem dX4_play_83 : decode cX4_play 83 = .ok (.putfield 41, 3) := by decide +kernel
theorem dX4_play_86 : decode cX4_play 86 = .ok (.iinc 4 1, 3) := by decide +kernel
theorem dX4_play_89 : decode cX4_play 89 = .ok (.goto (-81), 3) := by decide +kernel
theorem dX4_play_92 : decode cX4_play 92 = .ok (.iload 4, 2) := by decide +kernel
theorem dX4_play_94 : decode cX4_play 94 = .ok (.ireturn, 1) := by decide +kernel
theorem dX4_playDrawn_0 : decode cX4_playDrawn 0 = .ok (.aload_n 0, 1) := by decide +kernel
theorem dX4_playDrawn_1 : decode cX4_playDrawn 1 = .ok (.aload_n 1, 1) := by decide +kernel
theorem dX4_playDrawn_2 : decode cX4_playDrawn 2 = .ok (.invokevirtual 56, 3) := by decide +kernel
theorem dX4_playDrawn_5 : decode cX4_playDrawn 5 = .ok (.aload_n 0, 1) := by decide +kernel
theorem dX4_playDrawn_6 : decode cX4_playDrawn 6 = .ok (.iload_n 2, 1) := by decide +kernel
theorem dX4_playDrawn_7 : decode cX4_playDrawn 7 = .ok (.putfield 38, 3) := by decide +kernel
theorem dX4_playDrawn_10 : decode cX4_playDrawn 10 = .ok (.iconst 0, 1) := by decide +kernel
theorem dX4_playDrawn_11 : decode cX4_playDrawn 11 = .ok (.istore 4, 2) := by decide +kernel
theorem dX4_playDrawn_13 : decode cX4_playDrawn 13 = .ok (.iload 4, 2) := by decide +kernel
theorem dX4_playDrawn_15 : decode cX4_playDrawn 15 = .ok (.iload_n 3, 1) := by decide +kernel
theorem dX4_playDrawn_16 : decode cX4_playDrawn 16 = .ok (.if_icmp .ge 70, 3) := by decide +kernel
theorem dX4_playDrawn_19 : decode cX4_playDrawn 19 = .ok (.aload_n 0, 1) := by decide +kernel
theorem dX4_playDrawn_20 : decode cX4_playDrawn 20 = .ok (.bipush 10, 2) := by decide +kernel
theorem dX4_playDrawn_22 : decode cX4_playDrawn 22 = .ok (.invokevirtual 80, 3) := by decide +kernel
theorem dX4_playDrawn_25 : decode cX4_playDrawn 25 = .ok (.invokestatic 84, 3) := by decide +kernel
theorem dX4_playDrawn_28 : decode cX4_playDrawn 28 = .ok (.istore 5, 2) := by decide +kernel
theorem dX4_playDrawn_30 : decode cX4_playDrawn 30 = .ok (.iconst (-1), 1) := by decide +kernel
theorem dX4_playDrawn_31 : decode cX4_playDrawn 31 = .ok (.istore 6, 2) := by decide +kernel
theorem dX4_playDrawn_33 : decode cX4_playDrawn 33 = .ok (.iload 5, 2) := by decide +kernel
theorem dX4_playDrawn_35 : decode cX4_playDrawn 35 = .ok (.ifCond .eq 26, 3) := by decide +kernel
theorem dX4_playDrawn_38 : decode cX4_playDrawn 38 = .ok (.aload_n 0, 1) := by decide +kernel
theorem dX4_playDrawn_39 : decode cX4_playDrawn 39 = .ok (.getfield 12, 3) := by decide +kernel
theorem dX4_playDrawn_42 : decode cX4_playDrawn 42 = .ok (.getfield 87, 3) := by decide +kernel
theorem dX4_playDrawn_45 : decode cX4_playDrawn 45 = .ok (.ifCond .le 16, 3) := by decide +kernel
theorem dX4_playDrawn_48 : decode cX4_playDrawn 48 = .ok (.aload_n 0, 1) := by decide +kernel
theorem dX4_playDrawn_49 : decode cX4_playDrawn 49 = .ok (.aload_n 0, 1) := by decide +kernel
theorem dX4_playDrawn_50 : decode cX4_playDrawn 50 = .ok (.getfield 12, 3) := by decide +kernel
theorem dX4_playDrawn_53 : decode cX4_playDrawn 53 = .ok (.getfield 87, 3) := by decide +kernel
theorem dX4_playDrawn_56 : decode cX4_playDrawn 56 = .ok (.invokevirtual 80, 3) := by decide +kernel
theorem dX4_playDrawn_59 : decode cX4_playDrawn 59 = .ok (.istore 6, 2) := by decide +kernel
theorem dX4_playDrawn_61 : decode cX4_playDrawn 61 = .ok (.aload_n 0, 1) := by decide +kernel
theorem dX4_playDrawn_62 : decode cX4_playDrawn 62 = .ok (.iload 5, 2) := by decide +kernel
theorem dX4_playDrawn_64 : decode cX4_playDrawn 64 = .ok (.iload 6, 2) := by decide +kernel
theorem dX4_playDrawn_66 : decode cX4_playDrawn 66 = .ok (.invokevirtual 72, 3) := by decide +kernel
theorem dX4_playDrawn_69 : decode cX4_playDrawn 69 = .ok (.ifCond .eq 11, 3) := by decide +kernel
theorem dX4_playDrawn_72 : decode cX4_playDrawn 72 = .ok (.aload_n 0, 1) := by decide +kernel
theorem dX4_playDrawn_73 : decode cX4_playDrawn 73 = .ok (.iload 5, 2) := by decide +kernel
theorem dX4_playDrawn_75 : decode cX4_playDrawn 75 = .ok (.iload 6, 2) := by decide +kernel
theorem dX4_playDrawn_77 : decode cX4_playDrawn 77 = .ok (.invokevirtual 76, 3) := by decide +kernel
theorem dX4_playDrawn_80 : decode cX4_playDrawn 80 = .ok (.iinc 4 1, 3) := by decide +kernel
theorem dX4_playDrawn_83 : decode cX4_playDrawn 83 = .ok (.goto (-70), 3) := by decide +kernel
theorem dX4_playDrawn_86 : decode cX4_playDrawn 86 = .ok (.return_, 1) := by decide +kernel
theorem dX4_draw_0 : decode cX4_draw 0 = .ok (.aload_n 0, 1) := by decide +kernel
theorem dX4_draw_1 : decode cX4_draw 1 = .ok (.aload_n 0, 1) := by decide +kernel
theorem dX4_draw_2 : decode cX4_draw 2 = .ok (.getfield 38, 3) := by decide +kernel
theorem dX4_draw_5 : decode cX4_draw 5 = .ok (.ldc 90, 2) := by decide +kernel
theorem dX4_draw_7 : decode cX4_draw 7 = .ok (.imul, 1) := by decide +kernel
theorem dX4_draw_8 : decode cX4_draw 8 = .ok (.sipush 12345, 3) := by decide +kernel
theorem dX4_draw_11 : decode cX4_draw 11 = .ok (.iadd, 1) := by decide +kernel
theorem dX4_draw_12 : decode cX4_draw 12 = .ok (.putfield 38, 3) := by decide +kernel
theorem dX4_draw_15 : decode cX4_draw 15 = .ok (.aload_n 0, 1) := by decide +kernel
theorem dX4_draw_16 : decode cX4_draw 16 = .ok (.getfield 38, 3) := by decide +kernel
theorem dX4_draw_19 : decode cX4_draw 19 = .ok (.bipush 16, 2) := by decide +kernel
theorem dX4_draw_21 : decode cX4_draw 21 = .ok (.iushr, 1) := by decide +kernel
theorem dX4_draw_22 : decode cX4_draw 22 = .ok (.iconst 1, 1) := by decide +kernel
theorem dX4_draw_23 : decode cX4_draw 23 = .ok (.iload_n 1, 1) := by decide +kernel
theorem dX4_draw_24 : decode cX4_draw 24 = .ok (.invokestatic 91, 3) := by decide +kernel
theorem dX4_draw_27 : decode cX4_draw 27 = .ok (.irem, 1) := by decide +kernel
theorem dX4_draw_28 : decode cX4_draw 28 = .ok (.ireturn, 1) := by decide +kernel
theorem dX4_kindDrawn_0 : decode cX4_kindDrawn 0 = .ok (.iload_n 0, 1) := by decide +kernel
theorem dX4_kindDrawn_1 : decode cX4_kindDrawn 1 = .ok (.tableswitch 43 5 9 #[35, 37, 39, 41, 41], 35) := by decide +kernel
theorem dX4_kindDrawn_36 : decode cX4_kindDrawn 36 = .ok (.iconst 2, 1) := by decide +kernel
theorem dX4_kindDrawn_37 : decode cX4_kindDrawn 37 = .ok (.ireturn, 1) := by decide +kernel
theorem dX4_kindDrawn_38 : decode cX4_kindDrawn 38 = .ok (.iconst 3, 1) := by decide +kernel
theorem dX4_kindDrawn_39 : decode cX4_kindDrawn 39 = .ok (.ireturn, 1) := by decide +kernel
theorem dX4_kindDrawn_40 : decode cX4_kindDrawn 40 = .ok (.iconst 4, 1) := by decide +kernel
theorem dX4_kindDrawn_41 : decode cX4_kindDrawn 41 = .ok (.ireturn, 1) := by decide +kernel
theorem dX4_kindDrawn_42 : decode cX4_kindDrawn 42 = .ok (.iconst 0, 1) := by decide +kernel
theorem dX4_kindDrawn_43 : decode cX4_kindDrawn 43 = .ok (.ireturn, 1) := by decide +kernel
theorem dX4_kindDrawn_44 : decode cX4_kindDrawn 44 = .ok (.iconst 1, 1) := by decide +kernel
theorem dX4_kindDrawn_45 : decode cX4_kindDrawn 45 = .ok (.ireturn, 1) := by decide +kernel
theorem dX4_begin_0 : decode cX4_begin 0 = .ok (.aload_n 0, 1) := by decide +kernel
theorem dX4_begin_1 : decode cX4_begin 1 = .ok (.getfield 12, 3) := by decide +kernel
theorem dX4_begin_4 : decode cX4_begin 4 = .ok (.aload_n 1, 1) := by decide +kernel
theorem dX4_begin_5 : decode cX4_begin 5 = .ok (.invokevirtual 97, 3) := by decide +kernel
theorem dX4_begin_8 : decode cX4_begin 8 = .ok (.aload_n 0, 1) := by decide +kernel
theorem dX4_begin_9 : decode cX4_begin 9 = .ok (.aload_n 1, 1) := by decide +kernel
theorem dX4_begin_10 : decode cX4_begin 10 = .ok (.getfield 100, 3) := by decide +kernel
theorem dX4_begin_13 : decode cX4_begin 13 = .ok (.putfield 22, 3) := by decide +kernel
theorem dX4_begin_16 : decode cX4_begin 16 = .ok (.aload_n 0, 1) := by decide +kernel
theorem dX4_begin_17 : decode cX4_begin 17 = .ok (.iconst 0, 1) := by decide +kernel
theorem dX4_begin_18 : decode cX4_begin 18 = .ok (.putfield 26, 3) := by decide +kernel
theorem dX4_begin_21 : decode cX4_begin 21 = .ok (.aload_n 0, 1) := by decide +kernel
theorem dX4_begin_22 : decode cX4_begin 22 = .ok (.iconst 0, 1) := by decide +kernel
theorem dX4_begin_23 : decode cX4_begin 23 = .ok (.putfield 29, 3) := by decide +kernel
theorem dX4_begin_26 : decode cX4_begin 26 = .ok (.aload_n 0, 1) := by decide +kernel
theorem dX4_begin_27 : decode cX4_begin 27 = .ok (.iconst 0, 1) := by decide +kernel
theorem dX4_begin_28 : decode cX4_begin 28 = .ok (.putfield 32, 3) := by decide +kernel
theorem dX4_begin_31 : decode cX4_begin 31 = .ok (.aload_n 0, 1) := by decide +kernel
theorem dX4_begin_32 : decode cX4_begin 32 = .ok (.iconst 0, 1) := by decide +kernel
theorem dX4_begin_33 : decode cX4_begin 33 = .ok (.putfield 35, 3) := by decide +kernel
theorem dX4_begin_36 : decode cX4_begin 36 = .ok (.aload_n 0, 1) := by decide +kernel
theorem dX4_begin_37 : decode cX4_begin 37 = .ok (.iconst (-1), 1) := by decide +kernel
theorem dX4_begin_38 : decode cX4_begin 38 = .ok (.putfield 41, 3) := by decide +kernel
theorem dX4_begin_41 : decode cX4_begin 41 = .ok (.aload_n 0, 1) := by decide +kernel
theorem dX4_begin_42 : decode cX4_begin 42 = .ok (.iconst 0, 1) := by decide +kernel
theorem dX4_begin_43 : decode cX4_begin 43 = .ok (.putfield 44, 3) := by decide +kernel
theorem dX4_begin_46 : decode cX4_begin 46 = .ok (.aload_n 0, 1) := by decide +kernel
theorem dX4_begin_47 : decode cX4_begin 47 = .ok (.iconst 0, 1) := by decide +kernel
theorem dX4_begin_48 : decode cX4_begin 48 = .ok (.putfield 47, 3) := by decide +kernel
theorem dX4_begin_51 : decode cX4_begin 51 = .ok (.aload_n 0, 1) := by decide +kernel
theorem dX4_begin_52 : decode cX4_begin 52 = .ok (.iconst 0, 1) := by decide +kernel
theorem dX4_begin_53 : decode cX4_begin 53 = .ok (.putfield 50, 3) := by decide +kernel
theorem dX4_begin_56 : decode cX4_begin 56 = .ok (.aload_n 0, 1) := by decide +kernel
theorem dX4_begin_57 : decode cX4_begin 57 = .ok (.iconst 0, 1) := by decide +kernel
theorem dX4_begin_58 : decode cX4_begin 58 = .ok (.putfield 53, 3) := by decide +kernel
theorem dX4_begin_61 : decode cX4_begin 61 = .ok (.iconst 0, 1) := by decide +kernel
theorem dX4_begin_62 : decode cX4_begin 62 = .ok (.istore_n 2, 1) := by decide +kernel
theorem dX4_begin_63 : decode cX4_begin 63 = .ok (.iload_n 2, 1) := by decide +kernel
theorem dX4_begin_64 : decode cX4_begin 64 = .ok (.aload_n 0, 1) := by decide +kernel
theorem dX4_begin_65 : decode cX4_begin 65 = .ok (.getfield 18, 3) := by decide +kernel
theorem dX4_begin_68 : decode cX4_begin 68 = .ok (.arraylength, 1) := by decide +kernel
theorem dX4_begin_69 : decode cX4_begin 69 = .ok (.if_icmp .ge 16, 3) := by decide +kernel
theorem dX4_begin_72 : decode cX4_begin 72 = .ok (.aload_n 0, 1) := by decide +kernel
theorem dX4_begin_73 : decode cX4_begin 73 = .ok (.getfield 18, 3) := by decide +kernel
theorem dX4_begin_76 : decode cX4_begin 76 = .ok (.iload_n 2, 1) := by decide +kernel
theorem dX4_begin_77 : decode cX4_begin 77 = .ok (.iconst 0, 1) := by decide +kernel
theorem dX4_begin_78 : decode cX4_begin 78 = .ok (.iastore, 1) := by decide +kernel
theorem dX4_begin_79 : decode cX4_begin 79 = .ok (.iinc 2 1, 3) := by decide +kernel
theorem dX4_begin_82 : decode cX4_begin 82 = .ok (.goto (-19), 3) := by decide +kernel
theorem dX4_begin_85 : decode cX4_begin 85 = .ok (.return_, 1) := by decide +kernel
theorem dX4_may_0 : decode cX4_may 0 = .ok (.iload_n 1, 1) := by decide +kernel
theorem dX4_may_1 : decode cX4_may 1 = .ok (.ifCond .ne 20, 3) := by decide +kernel
theorem dX4_may_4 : decode cX4_may 4 = .ok (.aload_n 0, 1) := by decide +kernel
theorem dX4_may_5 : decode cX4_may 5 = .ok (.getfield 26, 3) := by decide +kernel
theorem dX4_may_8 : decode cX4_may 8 = .ok (.iconst 1, 1) := by decide +kernel
theorem dX4_may_9 : decode cX4_may 9 = .ok (.iadd, 1) := by decide +kernel
theorem dX4_may_10 : decode cX4_may 10 = .ok (.bipush 99, 2) := by decide +kernel
theorem dX4_may_12 : decode cX4_may 12 = .ok (.if_icmp .gt 7, 3) := by decide +kernel
theorem dX4_may_15 : decode cX4_may 15 = .ok (.iconst 1, 1) := by decide +kernel
theorem dX4_may_16 : decode cX4_may 16 = .ok (.goto 4, 3) := by decide +kernel
theorem dX4_may_19 : decode cX4_may 19 = .ok (.iconst 0, 1) := by decide +kernel
theorem dX4_may_20 : decode cX4_may 20 = .ok (.ireturn, 1) := by decide +kernel
theorem dX4_may_21 : decode cX4_may 21 = .ok (.aload_n 0, 1) := by decide +kernel
theorem dX4_may_22 : decode cX4_may 22 = .ok (.getfield 12, 3) := by decide +kernel
theorem dX4_may_25 : decode cX4_may 25 = .ok (.iload_n 2, 1) := by decide +kernel
theorem dX4_may_26 : decode cX4_may 26 = .ok (.invokevirtual 103, 3) := by decide +kernel
theorem dX4_may_29 : decode cX4_may 29 = .ok (.ifCond .ne 5, 3) := by decide +kernel
theorem dX4_may_32 : decode cX4_may 32 = .ok (.iconst 0, 1) := by decide +kernel
theorem dX4_may_33 : decode cX4_may 33 = .ok (.ireturn, 1) := by decide +kernel
theorem dX4_may_34 : decode cX4_may 34 = .ok (.aload_n 0, 1) := by decide +kernel
theorem dX4_may_35 : decode cX4_may 35 = .ok (.getfield 12, 3) := by decide +kernel
theorem dX4_may_38 : decode cX4_may 38 = .ok (.getfield 104, 3) := by decide +kernel
theorem dX4_may_41 : decode cX4_may 41 = .ok (.iload_n 2, 1) := by decide +kernel
theorem dX4_may_42 : decode cX4_may 42 = .ok (.iaload, 1) := by decide +kernel
theorem dX4_may_43 : decode cX4_may 43 = .ok (.ifCond .le 7, 3) := by decide +kernel
theorem dX4_may_46 : decode cX4_may 46 = .ok (.iconst 1, 1) := by decide +kernel
theorem dX4_may_47 : decode cX4_may 47 = .ok (.goto 4, 3) := by decide +kernel
theorem dX4_may_50 : decode cX4_may 50 = .ok (.iconst 0, 1) := by decide +kernel
theorem dX4_may_51 : decode cX4_may 51 = .ok (.istore_n 3, 1) := by decide +kernel
theorem dX4_may_52 : decode cX4_may 52 = .ok (.aload_n 0, 1) := by decide +kernel
theorem dX4_may_53 : decode cX4_may 53 = .ok (.getfield 26, 3) := by decide +kernel
theorem dX4_may_56 : decode cX4_may 56 = .ok (.aload_n 0, 1) := by decide +kernel
theorem dX4_may_57 : decode cX4_may 57 = .ok (.getfield 12, 3) := by decide +kernel
theorem dX4_may_60 : decode cX4_may 60 = .ok (.aload_n 0, 1) := by decide +kernel
theorem dX4_may_61 : decode cX4_may 61 = .ok (.getfield 22, 3) := by decide +kernel
theorem dX4_may_64 : decode cX4_may 64 = .ok (.aload_n 0, 1) := by decide +kernel
theorem dX4_may_65 : decode cX4_may 65 = .ok (.getfield 12, 3) := by decide +kernel
theorem dX4_may_68 : decode cX4_may 68 = .ok (.getfield 107, 3) := by decide +kernel
theorem dX4_may_71 : decode cX4_may 71 = .ok (.iload_n 2, 1) := by decide +kernel
theorem dX4_may_72 : decode cX4_may 72 = .ok (.iaload, 1) := by decide +kernel
theorem dX4_may_73 : decode cX4_may 73 = .ok (.invokevirtual 110, 3) := by decide +kernel
theorem dX4_may_76 : decode cX4_may 76 = .ok (.iadd, 1) := by decide +kernel
theorem dX4_may_77 : decode cX4_may 77 = .ok (.iconst 1, 1) := by decide +kernel
theorem dX4_may_78 : decode cX4_may 78 = .ok (.iadd, 1) := by decide +kernel
theorem dX4_may_79 : decode cX4_may 79 = .ok (.istore 4, 2) := by decide +kernel
theorem dX4_may_81 : decode cX4_may 81 = .ok (.iload_n 1, 1) := by decide +kernel
theorem dX4_may_82 : decode cX4_may 82 = .ok (.tableswitch 86 1 4 #[30, 47, 64, 66], 30) := by decide +kernel
theorem dX4_may_112 : decode cX4_may 112 = .ok (.iload_n 3, 1) := by decide +kernel
theorem dX4_may_113 : decode cX4_may 113 = .ok (.ifCond .eq 14, 3) := by decide +kernel
theorem dX4_may_116 : decode cX4_may 116 = .ok (.iload 4, 2) := by decide +kernel
theorem dX4_may_118 : decode cX4_may 118 = .ok (.bipush 99, 2) := by decide +kernel
theorem dX4_may_120 : decode cX4_may 120 = .ok (.if_icmp .gt 7, 3) := by decide +kernel
theorem dX4_may_123 : decode cX4_may 123 = .ok (.iconst 1, 1) := by decide +kernel
theorem dX4_may_124 : decode cX4_may 124 = .ok (.goto 4, 3) := by decide +kernel
theorem dX4_may_127 : decode cX4_may 127 = .ok (.iconst 0, 1) := by decide +kernel
theorem dX4_may_128 : decode cX4_may 128 = .ok (.ireturn, 1) := by decide +kernel
theorem dX4_may_129 : decode cX4_may 129 = .ok (.iload_n 3, 1) := by decide +kernel
theorem dX4_may_130 : decode cX4_may 130 = .ok (.ifCond .ne 14, 3) := by decide +kernel
theorem dX4_may_133 : decode cX4_may 133 = .ok (.iload 4, 2) := by decide +kernel
theorem dX4_may_135 : decode cX4_may 135 = .ok (.bipush 99, 2) := by decide +kernel
theorem dX4_may_137 : decode cX4_may 137 = .ok (.if_icmp .gt 7, 3) := by decide +kernel
theorem dX4_may_140 : decode cX4_may 140 = .ok (.iconst 1, 1) := by decide +kernel
theorem dX4_may_141 : decode cX4_may 141 = .ok (.goto 4, 3) := by decide +kernel
theorem dX4_may_144 : decode cX4_may 144 = .ok (.iconst 0, 1) := by decide +kernel
theorem dX4_may_145 : decode cX4_may 145 = .ok (.ireturn, 1) := by decide +kernel
theorem dX4_may_146 : decode cX4_may 146 = .ok (.iload_n 3, 1) := by decide +kernel
theorem dX4_may_147 : decode cX4_may 147 = .ok (.ireturn, 1) := by decide +kernel
theorem dX4_may_148 : decode cX4_may 148 = .ok (.aload_n 0, 1) := by decide +kernel
theorem dX4_may_149 : decode cX4_may 149 = .ok (.getfield 12, 3) := by decide +kernel
theorem dX4_may_152 : decode cX4_may 152 = .ok (.getfield 113, 3) := by decide +kernel
theorem dX4_may_155 : decode cX4_may 155 = .ok (.iload_n 2, 1) := by decide +kernel
theorem dX4_may_156 : decode cX4_may 156 = .ok (.iaload, 1) := by decide +kernel
theorem dX4_may_157 : decode cX4_may 157 = .ok (.bipush 6, 2) := by decide +kernel
theorem dX4_may_159 : decode cX4_may 159 = .ok (.if_icmp .ge 7, 3) := by decide +kernel
theorem dX4_may_162 : decode cX4_may 162 = .ok (.iconst 1, 1) := by decide +kernel
theorem dX4_may_163 : decode cX4_may 163 = .ok (.goto 4, 3) := by decide +kernel
theorem dX4_may_166 : decode cX4_may 166 = .ok (.iconst 0, 1) := by decide +kernel
theorem dX4_may_167 : decode cX4_may 167 = .ok (.ireturn, 1) := by decide +kernel
theorem dX4_may_168 : decode cX4_may 168 = .ok (.iconst 0, 1) := by decide +kernel
theorem dX4_may_169 : decode cX4_may 169 = .ok (.ireturn, 1) := by decide +kernel
theorem dX4_perform_0 : decode cX4_perform 0 = .ok (.iload_n 1, 1) := by decide +kernel
theorem dX4_perform_1 : decode cX4_perform 1 = .ok (.ifCond .ne 11, 3) := by decide +kernel
theorem dX4_perform_4 : decode cX4_perform 4 = .ok (.aload_n 0, 1) := by decide +kernel
theorem dX4_perform_5 : decode cX4_perform 5 = .ok (.iconst (-1), 1) := by decide +kernel
theorem dX4_perform_6 : decode cX4_perform 6 = .ok (.invokevirtual 116, 3) := by decide +kernel
theorem dX4_perform_9 : decode cX4_perform 9 = .ok (.goto 80, 3) := by decide +kernel
theorem dX4_perform_12 : decode cX4_perform 12 = .ok (.aload_n 0, 1) := by decide +kernel
theorem dX4_perform_13 : decode cX4_perform 13 = .ok (.getfield 12, 3) := by decide +kernel
theorem dX4_perform_16 : decode cX4_perform 16 = .ok (.iload_n 2, 1) := by decide +kernel
theorem dX4_perform_17 : decode cX4_perform 17 = .ok (.invokevirtual 103, 3) := by decide +kernel
theorem dX4_perform_20 : decode cX4_perform 20 = .ok (.ifCond .eq 69, 3) := by decide +kernel
theorem dX4_perform_23 : decode cX4_perform 23 = .ok (.iload_n 1, 1) := by decide +kernel
theorem dX4_perform_24 : decode cX4_perform 24 = .ok (.tableswitch 52 1 3 #[28, 36, 44], 28) := by decide +kernel
theorem dX4_perform_52 : decode cX4_perform 52 = .ok (.aload_n 0, 1) := by decide +kernel
theorem dX4_perform_53 : decode cX4_perform 53 = .ok (.iload_n 2, 1) := by decide +kernel
theorem dX4_perform_54 : decode cX4_perform 54 = .ok (.invokevirtual 120, 3) := by decide +kernel
theorem dX4_perform_57 : decode cX4_perform 57 = .ok (.goto 32, 3) := by decide +kernel
theorem dX4_perform_60 : decode cX4_perform 60 = .ok (.aload_n 0, 1) := by decide +kernel
theorem dX4_perform_61 : decode cX4_perform 61 = .ok (.iload_n 2, 1) := by decide +kernel
theorem dX4_perform_62 : decode cX4_perform 62 = .ok (.invokevirtual 123, 3) := by decide +kernel
theorem dX4_perform_65 : decode cX4_perform 65 = .ok (.goto 24, 3) := by decide +kernel
theorem dX4_perform_68 : decode cX4_perform 68 = .ok (.aload_n 0, 1) := by decide +kernel
theorem dX4_perform_69 : decode cX4_perform 69 = .ok (.iload_n 2, 1) := by decide +kernel
theorem dX4_perform_70 : decode cX4_perform 70 = .ok (.invokevirtual 126, 3) := by decide +kernel
theorem dX4_perform_73 : decode cX4_perform 73 = .ok (.goto 16, 3) := by decide +kernel
theorem dX4_perform_76 : decode cX4_perform 76 = .ok (.aload_n 0, 1) := by decide +kernel
theorem dX4_perform_77 : decode cX4_perform 77 = .ok (.getfield 12, 3) := by decide +kernel
theorem dX4_perform_80 : decode cX4_perform 80 = .ok (.getfield 113, 3) := by decide +kernel
theorem dX4_perform_83 : decode cX4_perform 83 = .ok (.iload_n 2, 1) := by decide +kernel
theorem dX4_perform_84 : decode cX4_perform 84 = .ok (.dup2, 1) := by decide +kernel
theorem dX4_perform_85 : decode cX4_perform 85 = .ok (.iaload, 1) := by decide +kernel
theorem dX4_perform_86 : decode cX4_perform 86 = .ok (.iconst 1, 1) := by decide +kernel
theorem dX4_perform_87 : decode cX4_perform 87 = .ok (.iadd, 1) := by decide +kernel
theorem dX4_perform_88 : decode cX4_perform 88 = .ok (.iastore, 1) := by decide +kernel
theorem dX4_perform_89 : decode cX4_perform 89 = .ok (.return_, 1) := by decide +kernel
theorem dX4_runTo_0 : decode cX4_runTo 0 = .ok (.aload_n 0, 1) := by decide +kernel
theorem dX4_runTo_1 : decode cX4_runTo 1 = .ok (.iload_n 1, 1) := by decide +kernel
theorem dX4_runTo_2 : decode cX4_runTo 2 = .ok (.invokevirtual 129, 3) := by decide +kernel
theorem dX4_runTo_5 : decode cX4_runTo 5 = .ok (.aload_n 0, 1) := by decide +kernel
theorem dX4_runTo_6 : decode cX4_runTo 6 = .ok (.getfield 12, 3) := by decide +kernel
theorem dX4_runTo_9 : decode cX4_runTo 9 = .ok (.getfield 104, 3) := by decide +kernel
theorem dX4_runTo_12 : decode cX4_runTo 12 = .ok (.iload_n 1, 1) := by decide +kernel
theorem dX4_runTo_13 : decode cX4_runTo 13 = .ok (.iaload, 1) := by decide +kernel
theorem dX4_runTo_14 : decode cX4_runTo 14 = .ok (.ifCond .le 49, 3) := by decide +kernel
theorem dX4_runTo_17 : decode cX4_runTo 17 = .ok (.aload_n 0, 1) := by decide +kernel
theorem dX4_runTo_18 : decode cX4_runTo 18 = .ok (.iload_n 1, 1) := by decide +kernel
theorem dX4_runTo_19 : decode cX4_runTo 19 = .ok (.invokevirtual 116, 3) := by decide +kernel
theorem dX4_runTo_22 : decode cX4_runTo 22 = .ok (.aload_n 0, 1) := by decide +kernel
theorem dX4_runTo_23 : decode cX4_runTo 23 = .ok (.getfield 12, 3) := by decide +kernel
theorem dX4_runTo_26 : decode cX4_runTo 26 = .ok (.getfield 104, 3) := by decide +kernel
theorem dX4_runTo_29 : decode cX4_runTo 29 = .ok (.iload_n 1, 1) := by decide +kernel
theorem dX4_runTo_30 : decode cX4_runTo 30 = .ok (.aload_n 0, 1) := by decide +kernel
theorem dX4_runTo_31 : decode cX4_runTo 31 = .ok (.getfield 12, 3) := by decide +kernel
theorem dX4_runTo_34 : decode cX4_runTo 34 = .ok (.getfield 113, 3) := by decide +kernel
theorem dX4_runTo_37 : decode cX4_runTo 37 = .ok (.iload_n 1, 1) := by decide +kernel
theorem dX4_runTo_38 : decode cX4_runTo 38 = .ok (.iaload, 1) := by decide +kernel
theorem dX4_runTo_39 : decode cX4_runTo 39 = .ok (.iastore, 1) := by decide +kernel
theorem dX4_runTo_40 : decode cX4_runTo 40 = .ok (.aload_n 0, 1) := by decide +kernel
theorem dX4_runTo_41 : decode cX4_runTo 41 = .ok (.dup, 1) := by decide +kernel
theorem dX4_runTo_42 : decode cX4_runTo 42 = .ok (.getfield 32, 3) := by decide +kernel
theorem dX4_runTo_45 : decode cX4_runTo 45 = .ok (.iconst 1, 1) := by decide +kernel
theorem dX4_runTo_46 : decode cX4_runTo 46 = .ok (.iadd, 1) := by decide +kernel
theorem dX4_runTo_47 : decode cX4_runTo 47 = .ok (.putfield 32, 3) := by decide +kernel
theorem dX4_runTo_50 : decode cX4_runTo 50 = .ok (.aload_n 0, 1) := by decide +kernel
theorem dX4_runTo_51 : decode cX4_runTo 51 = .ok (.getfield 18, 3) := by decide +kernel
theorem dX4_runTo_54 : decode cX4_runTo 54 = .ok (.iload_n 1, 1) := by decide +kernel
theorem dX4_runTo_55 : decode cX4_runTo 55 = .ok (.dup2, 1) := by decide +kernel
theorem dX4_runTo_56 : decode cX4_runTo 56 = .ok (.iaload, 1) := by decide +kernel
theorem dX4_runTo_57 : decode cX4_runTo 57 = .ok (.iconst 1, 1) := by decide +kernel
theorem dX4_runTo_58 : decode cX4_runTo 58 = .ok (.iadd, 1) := by decide +kernel
theorem dX4_runTo_59 : decode cX4_runTo 59 = .ok (.iastore, 1) := by decide +kernel
theorem dX4_runTo_60 : decode cX4_runTo 60 = .ok (.goto 18, 3) := by decide +kernel
theorem dX4_runTo_63 : decode cX4_runTo 63 = .ok (.aload_n 0, 1) := by decide +kernel
theorem dX4_runTo_64 : decode cX4_runTo 64 = .ok (.iconst (-1), 1) := by decide +kernel
theorem dX4_runTo_65 : decode cX4_runTo 65 = .ok (.invokevirtual 116, 3) := by decide +kernel
theorem dX4_runTo_68 : decode cX4_runTo 68 = .ok (.aload_n 0, 1) := by decide +kernel
theorem dX4_runTo_69 : decode cX4_runTo 69 = .ok (.dup, 1) := by decide +kernel
theorem dX4_runTo_70 : decode cX4_runTo 70 = .ok (.getfield 44, 3) := by decide +kernel
theorem dX4_runTo_73 : decode cX4_runTo 73 = .ok (.iconst 1, 1) := by decide +kernel
theorem dX4_runTo_74 : decode cX4_runTo 74 = .ok (.iadd, 1) := by decide +kernel
theorem dX4_runTo_75 : decode cX4_runTo 75 = .ok (.putfield 44, 3) := by decide +kernel
theorem dX4_runTo_78 : decode cX4_runTo 78 = .ok (.return_, 1) := by decide +kernel
theorem dX4_setUp_0 : decode cX4_setUp 0 = .ok (.aload_n 0, 1) := by decide +kernel
theorem dX4_setUp_1 : decode cX4_setUp 1 = .ok (.iload_n 1, 1) := by decide +kernel
theorem dX4_setUp_2 : decode cX4_setUp 2 = .ok (.invokevirtual 129, 3) := by decide +kernel
theorem dX4_setUp_5 : decode cX4_setUp 5 = .ok (.aload_n 0, 1) := by decide +kernel
theorem dX4_setUp_6 : decode cX4_setUp 6 = .ok (.iconst (-1), 1) := by decide +kernel
theorem dX4_setUp_7 : decode cX4_setUp 7 = .ok (.invokevirtual 116, 3) := by decide +kernel
theorem dX4_setUp_10 : decode cX4_setUp 10 = .ok (.aload_n 0, 1) := by decide +kernel
theorem dX4_setUp_11 : decode cX4_setUp 11 = .ok (.getfield 12, 3) := by decide +kernel
theorem dX4_setUp_14 : decode cX4_setUp 14 = .ok (.getfield 104, 3) := by decide +kernel
theorem dX4_setUp_17 : decode cX4_setUp 17 = .ok (.iload_n 1, 1) := by decide +kernel
theorem dX4_setUp_18 : decode cX4_setUp 18 = .ok (.aload_n 0, 1) := by decide +kernel
theorem dX4_setUp_19 : decode cX4_setUp 19 = .ok (.getfield 12, 3) := by decide +kernel
theorem dX4_setUp_22 : decode cX4_setUp 22 = .ok (.getfield 113, 3) := by decide +kernel
theorem dX4_setUp_25 : decode cX4_setUp 25 = .ok (.iload_n 1, 1) := by decide +kernel
theorem dX4_setUp_26 : decode cX4_setUp 26 = .ok (.iaload, 1) := by decide +kernel
theorem dX4_setUp_27 : decode cX4_setUp 27 = .ok (.iastore, 1) := by decide +kernel
theorem dX4_setUp_28 : decode cX4_setUp 28 = .ok (.return_, 1) := by decide +kernel
theorem dX4_blowAt_0 : decode cX4_blowAt 0 = .ok (.aload_n 0, 1) := by decide +kernel
theorem dX4_blowAt_1 : decode cX4_blowAt 1 = .ok (.getfield 12, 3) := by decide +kernel
theorem dX4_blowAt_4 : decode cX4_blowAt 4 = .ok (.getfield 104, 3) := by decide +kernel
theorem dX4_blowAt_7 : decode cX4_blowAt 7 = .ok (.iload_n 1, 1) := by decide +kernel
theorem dX4_blowAt_8 : decode cX4_blowAt 8 = .ok (.dup2, 1) := by decide +kernel
theorem dX4_blowAt_9 : decode cX4_blowAt 9 = .ok (.iaload, 1) := by decide +kernel
theorem dX4_blowAt_10 : decode cX4_blowAt 10 = .ok (.iconst 1, 1) := by decide +kernel
theorem dX4_blowAt_11 : decode cX4_blowAt 11 = .ok (.isub, 1) := by decide +kernel
theorem dX4_blowAt_12 : decode cX4_blowAt 12 = .ok (.iastore, 1) := by decide +kernel
theorem dX4_blowAt_13 : decode cX4_blowAt 13 = .ok (.aload_n 0, 1) := by decide +kernel
theorem dX4_blowAt_14 : decode cX4_blowAt 14 = .ok (.getfield 12, 3) := by decide +kernel
theorem dX4_blowAt_17 : decode cX4_blowAt 17 = .ok (.getfield 104, 3) := by decide +kernel
theorem dX4_blowAt_20 : decode cX4_blowAt 20 = .ok (.iload_n 1, 1) := by decide +kernel
theorem dX4_blowAt_21 : decode cX4_blowAt 21 = .ok (.iaload, 1) := by decide +kernel
theorem dX4_blowAt_22 : decode cX4_blowAt 22 = .ok (.ifCond .ne 13, 3) := by decide +kernel
theorem dX4_blowAt_25 : decode cX4_blowAt 25 = .ok (.aload_n 0, 1) := by decide +kernel
theorem dX4_blowAt_26 : decode cX4_blowAt 26 = .ok (.dup, 1) := by decide +kernel
theorem dX4_blowAt_27 : decode cX4_blowAt 27 = .ok (.getfield 29, 3) := by decide +kernel
theorem dX4_blowAt_30 : decode cX4_blowAt 30 = .ok (.iconst 1, 1) := by decide +kernel
theorem dX4_blowAt_31 : decode cX4_blowAt 31 = .ok (.iadd, 1) := by decide +kernel
theorem dX4_blowAt_32 : decode cX4_blowAt 32 = .ok (.putfield 29, 3) := by decide +kernel
theorem dX4_blowAt_35 : decode cX4_blowAt 35 = .ok (.return_, 1) := by decide +kernel
theorem dX4_passWay_0 : decode cX4_passWay 0 = .ok (.aload_n 0, 1) := by decide +kernel
theorem dX4_passWay_1 : decode cX4_passWay 1 = .ok (.getfield 12, 3) := by decide +kernel
theorem dX4_passWay_4 : decode cX4_passWay 4 = .ok (.aload_n 0, 1) := by decide +kernel
theorem dX4_passWay_5 : decode cX4_passWay 5 = .ok (.getfield 22, 3) := by decide +kernel
theorem dX4_passWay_8 : decode cX4_passWay 8 = .ok (.aload_n 0, 1) := by decide +kernel
theorem dX4_passWay_9 : decode cX4_passWay 9 = .ok (.getfield 12, 3) := by decide +kernel
theorem dX4_passWay_12 : decode cX4_passWay 12 = .ok (.getfield 107, 3) := by decide +kernel
theorem dX4_passWay_15 : decode cX4_passWay 15 = .ok (.iload_n 1, 1) := by decide +kernel
theorem dX4_passWay_16 : decode cX4_passWay 16 = .ok (.iaload, 1) := by decide +kernel
theorem dX4_passWay_17 : decode cX4_passWay 17 = .ok (.invokevirtual 110, 3) := by decide +kernel
theorem dX4_passWay_20 : decode cX4_passWay 20 = .ok (.istore_n 2, 1) := by decide +kernel
theorem dX4_passWay_21 : decode cX4_passWay 21 = .ok (.iconst 0, 1) := by decide +kernel
theorem dX4_passWay_22 : decode cX4_passWay 22 = .ok (.istore_n 3, 1) := by decide +kernel
theorem dX4_passWay_23 : decode cX4_passWay 23 = .ok (.iload_n 3, 1) := by decide +kernel
theorem dX4_passWay_24 : decode cX4_passWay 24 = .ok (.iload_n 2, 1) := by decide +kernel
theorem dX4_passWay_25 : decode cX4_passWay 25 = .ok (.if_icmp .ge 14, 3) := by decide +kernel
theorem dX4_passWay_28 : decode cX4_passWay 28 = .ok (.aload_n 0, 1) := by decide +kernel
theorem dX4_passWay_29 : decode cX4_passWay 29 = .ok (.iconst (-1), 1) := by decide +kernel
theorem dX4_passWay_30 : decode cX4_passWay 30 = .ok (.invokevirtual 116, 3) := by decide +kernel
theorem dX4_passWay_33 : decode cX4_passWay 33 = .ok (.iinc 3 1, 3) := by decide +kernel
theorem dX4_passWay_36 : decode cX4_passWay 36 = .ok (.goto (-13), 3) := by decide +kernel
theorem dX4_passWay_39 : decode cX4_passWay 39 = .ok (.aload_n 0, 1) := by decide +kernel
theorem dX4_passWay_40 : decode cX4_passWay 40 = .ok (.dup, 1) := by decide +kernel
theorem dX4_passWay_41 : decode cX4_passWay 41 = .ok (.getfield 50, 3) := by decide +kernel
theorem dX4_passWay_44 : decode cX4_passWay 44 = .ok (.iload_n 2, 1) := by decide +kernel
theorem dX4_passWay_45 : decode cX4_passWay 45 = .ok (.iadd, 1) := by decide +kernel
theorem dX4_passWay_46 : decode cX4_passWay 46 = .ok (.putfield 50, 3) := by decide +kernel
theorem dX4_passWay_49 : decode cX4_passWay 49 = .ok (.aload_n 0, 1) := by decide +kernel
theorem dX4_passWay_50 : decode cX4_passWay 50 = .ok (.aload_n 0, 1) := by decide +kernel
theorem dX4_passWay_51 : decode cX4_passWay 51 = .ok (.getfield 12, 3) := by decide +kernel
theorem dX4_passWay_54 : decode cX4_passWay 54 = .ok (.getfield 107, 3) := by decide +kernel
theorem dX4_passWay_57 : decode cX4_passWay 57 = .ok (.iload_n 1, 1) := by decide +kernel
theorem dX4_passWay_58 : decode cX4_passWay 58 = .ok (.iaload, 1) := by decide +kernel
theorem dX4_passWay_59 : decode cX4_passWay 59 = .ok (.putfield 22, 3) := by decide +kernel
theorem dX4_passWay_62 : decode cX4_passWay 62 = .ok (.return_, 1) := by decide +kernel
theorem dX4_passBeat_0 : decode cX4_passBeat 0 = .ok (.iconst 0, 1) := by decide +kernel
theorem dX4_passBeat_1 : decode cX4_passBeat 1 = .ok (.istore_n 2, 1) := by decide +kernel
theorem dX4_passBeat_2 : decode cX4_passBeat 2 = .ok (.iconst 0, 1) := by decide +kernel
theorem dX4_passBeat_3 : decode cX4_passBeat 3 = .ok (.istore_n 3, 1) := by decide +kernel
theorem dX4_passBeat_4 : decode cX4_passBeat 4 = .ok (.iload_n 3, 1) := by decide +kernel
theorem dX4_passBeat_5 : decode cX4_passBeat 5 = .ok (.aload_n 0, 1) := by decide +kernel
theorem dX4_passBeat_6 : decode cX4_passBeat 6 = .ok (.getfield 12, 3) := by decide +kernel
theorem dX4_passBeat_9 : decode cX4_passBeat 9 = .ok (.getfield 87, 3) := by decide +kernel
