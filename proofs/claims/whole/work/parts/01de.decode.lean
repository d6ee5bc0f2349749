theorem dX12_ofState_97 : decode cX12_ofState 97 = .ok (.ireturn, 1) := by decide +kernel
theorem dX12_ofState_98 : decode cX12_ofState 98 = .ok (.aload_n 0, 1) := by decide +kernel
theorem dX12_ofState_99 : decode cX12_ofState 99 = .ok (.invokevirtual 274, 3) := by decide +kernel
theorem dX12_ofState_102 : decode cX12_ofState 102 = .ok (.ireturn, 1) := by decide +kernel
theorem dX12_ofState_103 : decode cX12_ofState 103 = .ok (.aload_n 0, 1) := by decide +kernel
theorem dX12_ofState_104 : decode cX12_ofState 104 = .ok (.getfield 253, 3) := by decide +kernel
theorem dX12_ofState_107 : decode cX12_ofState 107 = .ok (.ireturn, 1) := by decide +kernel
theorem dX12_ofState_108 : decode cX12_ofState 108 = .ok (.aload_n 0, 1) := by decide +kernel
theorem dX12_ofState_109 : decode cX12_ofState 109 = .ok (.getfield 256, 3) := by decide +kernel
theorem dX12_ofState_112 : decode cX12_ofState 112 = .ok (.ireturn, 1) := by decide +kernel
theorem dX12_ofState_113 : decode cX12_ofState 113 = .ok (.iconst (-1), 1) := by decide +kernel
theorem dX12_ofState_114 : decode cX12_ofState 114 = .ok (.ireturn, 1) := by decide +kernel
theorem dX12_state_0 : decode cX12_state 0 = .ok (.aload_n 0, 1) := by decide +kernel
theorem dX12_state_1 : decode cX12_state 1 = .ok (.iconst 0, 1) := by decide +kernel
theorem dX12_state_2 : decode cX12_state 2 = .ok (.putfield 88, 3) := by decide +kernel
theorem dX12_state_5 : decode cX12_state 5 = .ok (.aload_n 0, 1) := by decide +kernel
theorem dX12_state_6 : decode cX12_state 6 = .ok (.iload_n 1, 1) := by decide +kernel
theorem dX12_state_7 : decode cX12_state 7 = .ok (.iload_n 2, 1) := by decide +kernel
theorem dX12_state_8 : decode cX12_state 8 = .ok (.invokevirtual 319, 3) := by decide +kernel
theorem dX12_state_11 : decode cX12_state 11 = .ok (.ifCond .eq 33, 3) := by decide +kernel
theorem dX12_state_14 : decode cX12_state 14 = .ok (.iload_n 3, 1) := by decide +kernel
theorem dX12_state_15 : decode cX12_state 15 = .ok (.iconst 0, 1) := by decide +kernel
theorem dX12_state_16 : decode cX12_state 16 = .ok (.aload_n 0, 1) := by decide +kernel
theorem dX12_state_17 : decode cX12_state 17 = .ok (.invokevirtual 304, 3) := by decide +kernel
theorem dX12_state_20 : decode cX12_state 20 = .ok (.invokestatic 100, 3) := by decide +kernel
theorem dX12_state_23 : decode cX12_state 23 = .ok (.ifCond .eq 21, 3) := by decide +kernel
theorem dX12_state_26 : decode cX12_state 26 = .ok (.aload_n 0, 1) := by decide +kernel
theorem dX12_state_27 : decode cX12_state 27 = .ok (.iload_n 3, 1) := by decide +kernel
theorem dX12_state_28 : decode cX12_state 28 = .ok (.invokevirtual 322, 3) := by decide +kernel
theorem dX12_state_31 : decode cX12_state 31 = .ok (.iload_n 3, 1) := by decide +kernel
theorem dX12_state_32 : decode cX12_state 32 = .ok (.if_icmp .ne 12, 3) := by decide +kernel
theorem dX12_state_35 : decode cX12_state 35 = .ok (.aload_n 0, 1) := by decide +kernel
theorem dX12_state_36 : decode cX12_state 36 = .ok (.iload 4, 2) := by decide +kernel
theorem dX12_state_38 : decode cX12_state 38 = .ok (.invokevirtual 325, 3) := by decide +kernel
theorem dX12_state_41 : decode cX12_state 41 = .ok (.goto 4, 3) := by decide +kernel
theorem dX12_state_44 : decode cX12_state 44 = .ok (.iconst (-1), 1) := by decide +kernel
theorem dX12_state_45 : decode cX12_state 45 = .ok (.ireturn, 1) := by decide +kernel
theorem dX12_open_0 : decode cX12_open 0 = .ok (.aload_n 0, 1) := by decide +kernel
theorem dX12_open_1 : decode cX12_open 1 = .ok (.iload_n 1, 1) := by decide +kernel
theorem dX12_open_2 : decode cX12_open 2 = .ok (.sipush 7776, 3) := by decide +kernel
theorem dX12_open_5 : decode cX12_open 5 = .ok (.idiv, 1) := by decide +kernel
theorem dX12_open_6 : decode cX12_open 6 = .ok (.putfield 328, 3) := by decide +kernel
theorem dX12_open_9 : decode cX12_open 9 = .ok (.iload_n 1, 1) := by decide +kernel
theorem dX12_open_10 : decode cX12_open 10 = .ok (.sipush 7776, 3) := by decide +kernel
theorem dX12_open_13 : decode cX12_open 13 = .ok (.irem, 1) := by decide +kernel
theorem dX12_open_14 : decode cX12_open 14 = .ok (.istore_n 2, 1) := by decide +kernel
theorem dX12_open_15 : decode cX12_open 15 = .ok (.iconst 0, 1) := by decide +kernel
theorem dX12_open_16 : decode cX12_open 16 = .ok (.istore_n 3, 1) := by decide +kernel
theorem dX12_open_17 : decode cX12_open 17 = .ok (.iload_n 3, 1) := by decide +kernel
theorem dX12_open_18 : decode cX12_open 18 = .ok (.iconst 5, 1) := by decide +kernel
theorem dX12_open_19 : decode cX12_open 19 = .ok (.if_icmp .ge 26, 3) := by decide +kernel
theorem dX12_open_22 : decode cX12_open 22 = .ok (.aload_n 0, 1) := by decide +kernel
theorem dX12_open_23 : decode cX12_open 23 = .ok (.getfield 72, 3) := by decide +kernel
theorem dX12_open_26 : decode cX12_open 26 = .ok (.iload_n 3, 1) := by decide +kernel
theorem dX12_open_27 : decode cX12_open 27 = .ok (.iload_n 2, 1) := by decide +kernel
theorem dX12_open_28 : decode cX12_open 28 = .ok (.bipush 6, 2) := by decide +kernel
theorem dX12_open_30 : decode cX12_open 30 = .ok (.irem, 1) := by decide +kernel
theorem dX12_open_31 : decode cX12_open 31 = .ok (.iconst 1, 1) := by decide +kernel
theorem dX12_open_32 : decode cX12_open 32 = .ok (.iadd, 1) := by decide +kernel
theorem dX12_open_33 : decode cX12_open 33 = .ok (.iastore, 1) := by decide +kernel
theorem dX12_open_34 : decode cX12_open 34 = .ok (.iload_n 2, 1) := by decide +kernel
theorem dX12_open_35 : decode cX12_open 35 = .ok (.bipush 6, 2) := by decide +kernel
theorem dX12_open_37 : decode cX12_open 37 = .ok (.idiv, 1) := by decide +kernel
theorem dX12_open_38 : decode cX12_open 38 = .ok (.istore_n 2, 1) := by decide +kernel
theorem dX12_open_39 : decode cX12_open 39 = .ok (.iinc 3 1, 3) := by decide +kernel
theorem dX12_open_42 : decode cX12_open 42 = .ok (.goto (-25), 3) := by decide +kernel
theorem dX12_open_45 : decode cX12_open 45 = .ok (.return_, 1) := by decide +kernel
theorem dX12_close_0 : decode cX12_close 0 = .ok (.aload_n 0, 1) := by decide +kernel
theorem dX12_close_1 : decode cX12_close 1 = .ok (.getfield 328, 3) := by decide +kernel
theorem dX12_close_4 : decode cX12_close 4 = .ok (.istore_n 1, 1) := by decide +kernel
theorem dX12_close_5 : decode cX12_close 5 = .ok (.iconst 4, 1) := by decide +kernel
theorem dX12_close_6 : decode cX12_close 6 = .ok (.istore_n 2, 1) := by decide +kernel
theorem dX12_close_7 : decode cX12_close 7 = .ok (.iload_n 2, 1) := by decide +kernel
theorem dX12_close_8 : decode cX12_close 8 = .ok (.ifCond .lt 38, 3) := by decide +kernel
theorem dX12_close_11 : decode cX12_close 11 = .ok (.bipush 6, 2) := by decide +kernel
theorem dX12_close_13 : decode cX12_close 13 = .ok (.iload_n 1, 1) := by decide +kernel
theorem dX12_close_14 : decode cX12_close 14 = .ok (.imul, 1) := by decide +kernel
theorem dX12_close_15 : decode cX12_close 15 = .ok (.aload_n 0, 1) := by decide +kernel
theorem dX12_close_16 : decode cX12_close 16 = .ok (.getfield 235, 3) := by decide +kernel
theorem dX12_close_19 : decode cX12_close 19 = .ok (.iload_n 2, 1) := by decide +kernel
theorem dX12_close_20 : decode cX12_close 20 = .ok (.invokestatic 92, 3) := by decide +kernel
theorem dX12_close_23 : decode cX12_close 23 = .ok (.ifCond .eq 14, 3) := by decide +kernel
theorem dX12_close_26 : decode cX12_close 26 = .ok (.aload_n 0, 1) := by decide +kernel
theorem dX12_close_27 : decode cX12_close 27 = .ok (.getfield 72, 3) := by decide +kernel
theorem dX12_close_30 : decode cX12_close 30 = .ok (.iload_n 2, 1) := by decide +kernel
theorem dX12_close_31 : decode cX12_close 31 = .ok (.iaload, 1) := by decide +kernel
theorem dX12_close_32 : decode cX12_close 32 = .ok (.iconst 1, 1) := by decide +kernel
theorem dX12_close_33 : decode cX12_close 33 = .ok (.isub, 1) := by decide +kernel
theorem dX12_close_34 : decode cX12_close 34 = .ok (.goto 4, 3) := by decide +kernel
theorem dX12_close_37 : decode cX12_close 37 = .ok (.iconst 0, 1) := by decide +kernel
theorem dX12_close_38 : decode cX12_close 38 = .ok (.iadd, 1) := by decide +kernel
theorem dX12_close_39 : decode cX12_close 39 = .ok (.istore_n 1, 1) := by decide +kernel
theorem dX12_close_40 : decode cX12_close 40 = .ok (.iinc 2 (-1), 3) := by decide +kernel
theorem dX12_close_43 : decode cX12_close 43 = .ok (.goto (-36), 3) := by decide +kernel
theorem dX12_close_46 : decode cX12_close 46 = .ok (.iload_n 1, 1) := by decide +kernel
theorem dX12_close_47 : decode cX12_close 47 = .ok (.ireturn, 1) := by decide +kernel
theorem dX12_openFirst_0 : decode cX12_openFirst 0 = .ok (.aload_n 0, 1) := by decide +kernel
theorem dX12_openFirst_1 : decode cX12_openFirst 1 = .ok (.iconst 5, 1) := by decide +kernel
theorem dX12_openFirst_2 : decode cX12_openFirst 2 = .ok (.putfield 328, 3) := by decide +kernel
theorem dX12_openFirst_5 : decode cX12_openFirst 5 = .ok (.iconst 0, 1) := by decide +kernel
theorem dX12_openFirst_6 : decode cX12_openFirst 6 = .ok (.istore_n 1, 1) := by decide +kernel
theorem dX12_openFirst_7 : decode cX12_openFirst 7 = .ok (.iload_n 1, 1) := by decide +kernel
theorem dX12_openFirst_8 : decode cX12_openFirst 8 = .ok (.iconst 5, 1) := by decide +kernel
theorem dX12_openFirst_9 : decode cX12_openFirst 9 = .ok (.if_icmp .ge 21, 3) := by decide +kernel
theorem dX12_openFirst_12 : decode cX12_openFirst 12 = .ok (.aload_n 0, 1) := by decide +kernel
theorem dX12_openFirst_13 : decode cX12_openFirst 13 = .ok (.getfield 72, 3) := by decide +kernel
theorem dX12_openFirst_16 : decode cX12_openFirst 16 = .ok (.iload_n 1, 1) := by decide +kernel
theorem dX12_openFirst_17 : decode cX12_openFirst 17 = .ok (.aload_n 0, 1) := by decide +kernel
theorem dX12_openFirst_18 : decode cX12_openFirst 18 = .ok (.getfield 47, 3) := by decide +kernel
theorem dX12_openFirst_21 : decode cX12_openFirst 21 = .ok (.iload_n 1, 1) := by decide +kernel
theorem dX12_openFirst_22 : decode cX12_openFirst 22 = .ok (.iaload, 1) := by decide +kernel
theorem dX12_openFirst_23 : decode cX12_openFirst 23 = .ok (.iastore, 1) := by decide +kernel
theorem dX12_openFirst_24 : decode cX12_openFirst 24 = .ok (.iinc 1 1, 3) := by decide +kernel
theorem dX12_openFirst_27 : decode cX12_openFirst 27 = .ok (.goto (-20), 3) := by decide +kernel
theorem dX12_openFirst_30 : decode cX12_openFirst 30 = .ok (.return_, 1) := by decide +kernel
theorem dX12_placeNow_0 : decode cX12_placeNow 0 = .ok (.aload_n 0, 1) := by decide +kernel
theorem dX12_placeNow_1 : decode cX12_placeNow 1 = .ok (.getfield 328, 3) := by decide +kernel
theorem dX12_placeNow_4 : decode cX12_placeNow 4 = .ok (.iconst 5, 1) := by decide +kernel
theorem dX12_placeNow_5 : decode cX12_placeNow 5 = .ok (.if_icmp .ne 10, 3) := by decide +kernel
theorem dX12_placeNow_8 : decode cX12_placeNow 8 = .ok (.aload_n 0, 1) := by decide +kernel
theorem dX12_placeNow_9 : decode cX12_placeNow 9 = .ok (.getfield 229, 3) := by decide +kernel
theorem dX12_placeNow_12 : decode cX12_placeNow 12 = .ok (.goto 12, 3) := by decide +kernel
theorem dX12_placeNow_15 : decode cX12_placeNow 15 = .ok (.aload_n 0, 1) := by decide +kernel
theorem dX12_placeNow_16 : decode cX12_placeNow 16 = .ok (.getfield 41, 3) := by decide +kernel
theorem dX12_placeNow_19 : decode cX12_placeNow 19 = .ok (.aload_n 0, 1) := by decide +kernel
theorem dX12_placeNow_20 : decode cX12_placeNow 20 = .ok (.getfield 328, 3) := by decide +kernel
theorem dX12_placeNow_23 : decode cX12_placeNow 23 = .ok (.iaload, 1) := by decide +kernel
theorem dX12_placeNow_24 : decode cX12_placeNow 24 = .ok (.ireturn, 1) := by decide +kernel
theorem dX12_beatsTo_0 : decode cX12_beatsTo 0 = .ok (.aload_n 0, 1) := by decide +kernel
theorem dX12_beatsTo_1 : decode cX12_beatsTo 1 = .ok (.aload_n 0, 1) := by decide +kernel
theorem dX12_beatsTo_2 : decode cX12_beatsTo 2 = .ok (.invokevirtual 331, 3) := by decide +kernel
theorem dX12_beatsTo_5 : decode cX12_beatsTo 5 = .ok (.aload_n 0, 1) := by decide +kernel
theorem dX12_beatsTo_6 : decode cX12_beatsTo 6 = .ok (.getfield 41, 3) := by decide +kernel
theorem dX12_beatsTo_9 : decode cX12_beatsTo 9 = .ok (.iload_n 1, 1) := by decide +kernel
theorem dX12_beatsTo_10 : decode cX12_beatsTo 10 = .ok (.iaload, 1) := by decide +kernel
theorem dX12_beatsTo_11 : decode cX12_beatsTo 11 = .ok (.invokevirtual 283, 3) := by decide +kernel
theorem dX12_beatsTo_14 : decode cX12_beatsTo 14 = .ok (.iconst 1, 1) := by decide +kernel
theorem dX12_beatsTo_15 : decode cX12_beatsTo 15 = .ok (.iadd, 1) := by decide +kernel
theorem dX12_beatsTo_16 : decode cX12_beatsTo 16 = .ok (.ireturn, 1) := by decide +kernel
theorem dX12_isKept_0 : decode cX12_isKept 0 = .ok (.aload_n 0, 1) := by decide +kernel
theorem dX12_isKept_1 : decode cX12_isKept 1 = .ok (.iload_n 1, 1) := by decide +kernel
theorem dX12_isKept_2 : decode cX12_isKept 2 = .ok (.invokevirtual 334, 3) := by decide +kernel
theorem dX12_isKept_5 : decode cX12_isKept 5 = .ok (.istore_n 2, 1) := by decide +kernel
theorem dX12_isKept_6 : decode cX12_isKept 6 = .ok (.aload_n 0, 1) := by decide +kernel
theorem dX12_isKept_7 : decode cX12_isKept 7 = .ok (.getfield 235, 3) := by decide +kernel
theorem dX12_isKept_10 : decode cX12_isKept 10 = .ok (.iload_n 1, 1) := by decide +kernel
theorem dX12_isKept_11 : decode cX12_isKept 11 = .ok (.invokestatic 92, 3) := by decide +kernel
theorem dX12_isKept_14 : decode cX12_isKept 14 = .ok (.ifCond .eq 17, 3) := by decide +kernel
theorem dX12_isKept_17 : decode cX12_isKept 17 = .ok (.aload_n 0, 1) := by decide +kernel
theorem dX12_isKept_18 : decode cX12_isKept 18 = .ok (.getfield 72, 3) := by decide +kernel
theorem dX12_isKept_21 : decode cX12_isKept 21 = .ok (.iload_n 1, 1) := by decide +kernel
theorem dX12_isKept_22 : decode cX12_isKept 22 = .ok (.iaload, 1) := by decide +kernel
theorem dX12_isKept_23 : decode cX12_isKept 23 = .ok (.iload_n 2, 1) := by decide +kernel
theorem dX12_isKept_24 : decode cX12_isKept 24 = .ok (.if_icmp .lt 7, 3) := by decide +kernel
theorem dX12_isKept_27 : decode cX12_isKept 27 = .ok (.iconst 1, 1) := by decide +kernel
theorem dX12_isKept_28 : decode cX12_isKept 28 = .ok (.goto 4, 3) := by decide +kernel
theorem dX12_isKept_31 : decode cX12_isKept 31 = .ok (.iconst 0, 1) := by decide +kernel
theorem dX12_isKept_32 : decode cX12_isKept 32 = .ok (.istore_n 3, 1) := by decide +kernel
theorem dX12_isKept_33 : decode cX12_isKept 33 = .ok (.iconst 0, 1) := by decide +kernel
theorem dX12_isKept_34 : decode cX12_isKept 34 = .ok (.istore 4, 2) := by decide +kernel
theorem dX12_isKept_36 : decode cX12_isKept 36 = .ok (.iload 4, 2) := by decide +kernel
theorem dX12_isKept_38 : decode cX12_isKept 38 = .ok (.iconst 5, 1) := by decide +kernel
theorem dX12_isKept_39 : decode cX12_isKept 39 = .ok (.if_icmp .ge 48, 3) := by decide +kernel
theorem dX12_isKept_42 : decode cX12_isKept 42 = .ok (.iload_n 3, 1) := by decide +kernel
theorem dX12_isKept_43 : decode cX12_isKept 43 = .ok (.ifCond .eq 36, 3) := by decide +kernel
theorem dX12_isKept_46 : decode cX12_isKept 46 = .ok (.iload 4, 2) := by decide +kernel
theorem dX12_isKept_48 : decode cX12_isKept 48 = .ok (.iload_n 1, 1) := by decide +kernel
theorem dX12_isKept_49 : decode cX12_isKept 49 = .ok (.if_icmp .eq 26, 3) := by decide +kernel
theorem dX12_isKept_52 : decode cX12_isKept 52 = .ok (.aload_n 0, 1) := by decide +kernel
theorem dX12_isKept_53 : decode cX12_isKept 53 = .ok (.getfield 235, 3) := by decide +kernel
theorem dX12_isKept_56 : decode cX12_isKept 56 = .ok (.iload 4, 2) := by decide +kernel
theorem dX12_isKept_58 : decode cX12_isKept 58 = .ok (.invokestatic 92, 3) := by decide +kernel
theorem dX12_isKept_61 : decode cX12_isKept 61 = .ok (.ifCond .eq 14, 3) := by decide +kernel
theorem dX12_isKept_64 : decode cX12_isKept 64 = .ok (.aload_n 0, 1) := by decide +kernel
theorem dX12_isKept_65 : decode cX12_isKept 65 = .ok (.getfield 72, 3) := by decide +kernel
theorem dX12_isKept_68 : decode cX12_isKept 68 = .ok (.iload 4, 2) := by decide +kernel
theorem dX12_isKept_70 : decode cX12_isKept 70 = .ok (.iaload, 1) := by decide +kernel
theorem dX12_isKept_71 : decode cX12_isKept 71 = .ok (.iload_n 2, 1) := by decide +kernel
theorem dX12_isKept_72 : decode cX12_isKept 72 = .ok (.if_icmp .le 7, 3) := by decide +kernel
theorem dX12_isKept_75 : decode cX12_isKept 75 = .ok (.iconst 1, 1) := by decide +kernel
theorem dX12_isKept_76 : decode cX12_isKept 76 = .ok (.goto 4, 3) := by decide +kernel
theorem dX12_isKept_79 : decode cX12_isKept 79 = .ok (.iconst 0, 1) := by decide +kernel
theorem dX12_isKept_80 : decode cX12_isKept 80 = .ok (.istore_n 3, 1) := by decide +kernel
theorem dX12_isKept_81 : decode cX12_isKept 81 = .ok (.iinc 4 1, 3) := by decide +kernel
theorem dX12_isKept_84 : decode cX12_isKept 84 = .ok (.goto (-48), 3) := by decide +kernel
theorem dX12_isKept_87 : decode cX12_isKept 87 = .ok (.iload_n 3, 1) := by decide +kernel
theorem dX12_isKept_88 : decode cX12_isKept 88 = .ok (.ireturn, 1) := by decide +kernel
theorem dX12_behindRun_0 : decode cX12_behindRun 0 = .ok (.aload_n 0, 1) := by decide +kernel
theorem dX12_behindRun_1 : decode cX12_behindRun 1 = .ok (.iload_n 1, 1) := by decide +kernel
theorem dX12_behindRun_2 : decode cX12_behindRun 2 = .ok (.invokevirtual 334, 3) := by decide +kernel
theorem dX12_behindRun_5 : decode cX12_behindRun 5 = .ok (.istore_n 2, 1) := by decide +kernel
theorem dX12_behindRun_6 : decode cX12_behindRun 6 = .ok (.iconst 0, 1) := by decide +kernel
theorem dX12_behindRun_7 : decode cX12_behindRun 7 = .ok (.istore_n 3, 1) := by decide +kernel
theorem dX12_behindRun_8 : decode cX12_behindRun 8 = .ok (.iload_n 3, 1) := by decide +kernel
theorem dX12_behindRun_9 : decode cX12_behindRun 9 = .ok (.iconst 5, 1) := by decide +kernel
theorem dX12_behindRun_10 : decode cX12_behindRun 10 = .ok (.if_icmp .ge 37, 3) := by decide +kernel
theorem dX12_behindRun_13 : decode cX12_behindRun 13 = .ok (.aload_n 0, 1) := by decide +kernel
theorem dX12_behindRun_14 : decode cX12_behindRun 14 = .ok (.getfield 72, 3) := by decide +kernel
theorem dX12_behindRun_17 : decode cX12_behindRun 17 = .ok (.iload_n 3, 1) := by decide +kernel
theorem dX12_behindRun_18 : decode cX12_behindRun 18 = .ok (.iload_n 3, 1) := by decide +kernel
theorem dX12_behindRun_19 : decode cX12_behindRun 19 = .ok (.iload_n 1, 1) := by decide +kernel
theorem dX12_behindRun_20 : decode cX12_behindRun 20 = .ok (.if_icmp .ne 12, 3) := by decide +kernel
theorem dX12_behindRun_23 : decode cX12_behindRun 23 = .ok (.aload_n 0, 1) := by decide +kernel
theorem dX12_behindRun_24 : decode cX12_behindRun 24 = .ok (.getfield 44, 3) := by decide +kernel
theorem dX12_behindRun_27 : decode cX12_behindRun 27 = .ok (.iload_n 3, 1) := by decide +kernel
theorem dX12_behindRun_28 : decode cX12_behindRun 28 = .ok (.iaload, 1) := by decide +kernel
theorem dX12_behindRun_29 : decode cX12_behindRun 29 = .ok (.goto 11, 3) := by decide +kernel
theorem dX12_behindRun_32 : decode cX12_behindRun 32 = .ok (.aload_n 0, 1) := by decide +kernel
theorem dX12_behindRun_33 : decode cX12_behindRun 33 = .ok (.getfield 72, 3) := by decide +kernel
theorem dX12_behindRun_36 : decode cX12_behindRun 36 = .ok (.iload_n 3, 1) := by decide +kernel
theorem dX12_behindRun_37 : decode cX12_behindRun 37 = .ok (.iaload, 1) := by decide +kernel
theorem dX12_behindRun_38 : decode cX12_behindRun 38 = .ok (.iload_n 2, 1) := by decide +kernel
theorem dX12_behindRun_39 : decode cX12_behindRun 39 = .ok (.isub, 1) := by decide +kernel
theorem dX12_behindRun_40 : decode cX12_behindRun 40 = .ok (.iastore, 1) := by decide +kernel
theorem dX12_behindRun_41 : decode cX12_behindRun 41 = .ok (.iinc 3 1, 3) := by decide +kernel
theorem dX12_behindRun_44 : decode cX12_behindRun 44 = .ok (.goto (-36), 3) := by decide +kernel
theorem dX12_behindRun_47 : decode cX12_behindRun 47 = .ok (.aload_n 0, 1) := by decide +kernel
theorem dX12_behindRun_48 : decode cX12_behindRun 48 = .ok (.iload_n 1, 1) := by decide +kernel
theorem dX12_behindRun_49 : decode cX12_behindRun 49 = .ok (.putfield 328, 3) := by decide +kernel
theorem dX12_behindRun_52 : decode cX12_behindRun 52 = .ok (.aload_n 0, 1) := by decide +kernel
theorem dX12_behindRun_53 : decode cX12_behindRun 53 = .ok (.invokevirtual 337, 3) := by decide +kernel
theorem dX12_behindRun_56 : decode cX12_behindRun 56 = .ok (.ireturn, 1) := by decide +kernel
theorem dX12_addStand_0 : decode cX12_addStand 0 = .ok (.aload_n 0, 1) := by decide +kernel
theorem dX12_addStand_1 : decode cX12_addStand 1 = .ok (.getfield 60, 3) := by decide +kernel
theorem dX12_addStand_4 : decode cX12_addStand 4 = .ok (.iload_n 1, 1) := by decide +kernel
theorem dX12_addStand_5 : decode cX12_addStand 5 = .ok (.iaload, 1) := by decide +kernel
theorem dX12_addStand_6 : decode cX12_addStand 6 = .ok (.ifCond .ne 33, 3) := by decide +kernel
theorem dX12_addStand_9 : decode cX12_addStand 9 = .ok (.aload_n 0, 1) := by decide +kernel
theorem dX12_addStand_10 : decode cX12_addStand 10 = .ok (.getfield 57, 3) := by decide +kernel
theorem dX12_addStand_13 : decode cX12_addStand 13 = .ok (.aload_n 0, 1) := by decide +kernel
theorem dX12_addStand_14 : decode cX12_addStand 14 = .ok (.getfield 340, 3) := by decide +kernel
theorem dX12_addStand_17 : decode cX12_addStand 17 = .ok (.iload_n 1, 1) := by decide +kernel
theorem dX12_addStand_18 : decode cX12_addStand 18 = .ok (.iastore, 1) := by decide +kernel
theorem dX12_addStand_19 : decode cX12_addStand 19 = .ok (.aload_n 0, 1) := by decide +kernel
theorem dX12_addStand_20 : decode cX12_addStand 20 = .ok (.dup, 1) := by decide +kernel
theorem dX12_addStand_21 : decode cX12_addStand 21 = .ok (.getfield 340, 3) := by decide +kernel
theorem dX12_addStand_24 : decode cX12_addStand 24 = .ok (.iconst 1, 1) := by decide +kernel
theorem dX12_addStand_25 : decode cX12_addStand 25 = .ok (.iadd, 1) := by decide +kernel
theorem dX12_addStand_26 : decode cX12_addStand 26 = .ok (.putfield 340, 3) := by decide +kernel
theorem dX12_addStand_29 : decode cX12_addStand 29 = .ok (.aload_n 0, 1) := by decide +kernel
theorem dX12_addStand_30 : decode cX12_addStand 30 = .ok (.getfield 60, 3) := by decide +kernel
theorem dX12_addStand_33 : decode cX12_addStand 33 = .ok (.iload_n 1, 1) := by decide +kernel
theorem dX12_addStand_34 : decode cX12_addStand 34 = .ok (.aload_n 0, 1) := by decide +kernel
theorem dX12_addStand_35 : decode cX12_addStand 35 = .ok (.getfield 340, 3) := by decide +kernel
theorem dX12_addStand_38 : decode cX12_addStand 38 = .ok (.iastore, 1) := by decide +kernel
theorem dX12_addStand_39 : decode cX12_addStand 39 = .ok (.return_, 1) := by decide +kernel
theorem dX12_layOut_0 : decode cX12_layOut 0 = .ok (.iconst 0, 1) := by decide +kernel
theorem dX12_layOut_1 : decode cX12_layOut 1 = .ok (.istore_n 1, 1) := by decide +kernel
theorem dX12_layOut_2 : decode cX12_layOut 2 = .ok (.iload_n 1, 1) := by decide +kernel
theorem dX12_layOut_3 : decode cX12_layOut 3 = .ok (.aload_n 0, 1) := by decide +kernel
theorem dX12_layOut_4 : decode cX12_layOut 4 = .ok (.getfield 340, 3) := by decide +kernel
theorem dX12_layOut_7 : decode cX12_layOut 7 = .ok (.if_icmp .ge 21, 3) := by decide +kernel
theorem dX12_layOut_10 : decode cX12_layOut 10 = .ok (.aload_n 0, 1) := by decide +kernel
theorem dX12_layOut_11 : decode cX12_layOut 11 = .ok (.getfield 60, 3) := by decide +kernel
theorem dX12_layOut_14 : decode cX12_layOut 14 = .ok (.aload_n 0, 1) := by decide +kernel
theorem dX12_layOut_15 : decode cX12_layOut 15 = .ok (.getfield 57, 3) := by decide +kernel
theorem dX12_layOut_18 : decode cX12_layOut 18 = .ok (.iload_n 1, 1) := by decide +kernel
theorem dX12_layOut_19 : decode cX12_layOut 19 = .ok (.iaload, 1) := by decide +kernel
theorem dX12_layOut_20 : decode cX12_layOut 20 = .ok (.iconst 0, 1) := by decide +kernel
theorem dX12_layOut_21 : decode cX12_layOut 21 = .ok (.iastore, 1) := by decide +kernel
theorem dX12_layOut_22 : decode cX12_layOut 22 = .ok (.iinc 1 1, 3) := by decide +kernel
theorem dX12_layOut_25 : decode cX12_layOut 25 = .ok (.goto (-23), 3) := by decide +kernel
theorem dX12_layOut_28 : decode cX12_layOut 28 = .ok (.aload_n 0, 1) := by decide +kernel
theorem dX12_layOut_29 : decode cX12_layOut 29 = .ok (.iconst 0, 1) := by decide +kernel
theorem dX12_layOut_30 : decode cX12_layOut 30 = .ok (.putfield 340, 3) := by decide +kernel
theorem dX12_layOut_33 : decode cX12_layOut 33 = .ok (.aload_n 0, 1) := by decide +kernel
theorem dX12_layOut_34 : decode cX12_layOut 34 = .ok (.invokevirtual 343, 3) := by decide +kernel
theorem dX12_layOut_37 : decode cX12_layOut 37 = .ok (.aload_n 0, 1) := by decide +kernel
theorem dX12_layOut_38 : decode cX12_layOut 38 = .ok (.aload_n 0, 1) := by decide +kernel
theorem dX12_layOut_39 : decode cX12_layOut 39 = .ok (.invokevirtual 337, 3) := by decide +kernel
theorem dX12_layOut_42 : decode cX12_layOut 42 = .ok (.invokevirtual 346, 3) := by decide +kernel
theorem dX12_layOut_45 : decode cX12_layOut 45 = .ok (.iconst 0, 1) := by decide +kernel
theorem dX12_layOut_46 : decode cX12_layOut 46 = .ok (.istore_n 1, 1) := by decide +kernel
theorem dX12_layOut_47 : decode cX12_layOut 47 = .ok (.iload_n 1, 1) := by decide +kernel
theorem dX12_layOut_48 : decode cX12_layOut 48 = .ok (.aload_n 0, 1) := by decide +kernel
theorem dX12_layOut_49 : decode cX12_layOut 49 = .ok (.getfield 340, 3) := by decide +kernel
theorem dX12_layOut_52 : decode cX12_layOut 52 = .ok (.if_icmp .ge 49, 3) := by decide +kernel
theorem dX12_layOut_55 : decode cX12_layOut 55 = .ok (.iconst 0, 1) := by decide +kernel
theorem dX12_layOut_56 : decode cX12_layOut 56 = .ok (.istore_n 2, 1) := by decide +kernel
theorem dX12_layOut_57 : decode cX12_layOut 57 = .ok (.iload_n 2, 1) := by decide +kernel
theorem dX12_layOut_58 : decode cX12_layOut 58 = .ok (.iconst 5, 1) := by decide +kernel
theorem dX12_layOut_59 : decode cX12_layOut 59 = .ok (.if_icmp .ge 36, 3) := by decide +kernel
theorem dX12_layOut_62 : decode cX12_layOut 62 = .ok (.aload_n 0, 1) := by decide +kernel
theorem dX12_layOut_63 : decode cX12_layOut 63 = .ok (.aload_n 0, 1) := by decide +kernel
theorem dX12_layOut_64 : decode cX12_layOut 64 = .ok (.getfield 57, 3) := by decide +kernel
theorem dX12_layOut_67 : decode cX12_layOut 67 = .ok (.iload_n 1, 1) := by decide +kernel
theorem dX12_layOut_68 : decode cX12_layOut 68 = .ok (.iaload, 1) := by decide +kernel
theorem dX12_layOut_69 : decode cX12_layOut 69 = .ok (.invokevirtual 349, 3) := by decide +kernel
theorem dX12_layOut_72 : decode cX12_layOut 72 = .ok (.aload_n 0, 1) := by decide +kernel
theorem dX12_layOut_73 : decode cX12_layOut 73 = .ok (.iload_n 2, 1) := by decide +kernel
theorem dX12_layOut_74 : decode cX12_layOut 74 = .ok (.invokevirtual 352, 3) := by decide +kernel
theorem dX12_layOut_77 : decode cX12_layOut 77 = .ok (.ifCond .eq 12, 3) := by decide +kernel
theorem dX12_layOut_80 : decode cX12_layOut 80 = .ok (.aload_n 0, 1) := by decide +kernel
theorem dX12_layOut_81 : decode cX12_layOut 81 = .ok (.aload_n 0, 1) := by decide +kernel
theorem dX12_layOut_82 : decode cX12_layOut 82 = .ok (.iload_n 2, 1) := by decide +kernel
theorem dX12_layOut_83 : decode cX12_layOut 83 = .ok (.invokevirtual 355, 3) := by decide +kernel
theorem dX12_layOut_86 : decode cX12_layOut 86 = .ok (.invokevirtual 346, 3) := by decide +kernel
theorem dX12_layOut_89 : decode cX12_layOut 89 = .ok (.iinc 2 1, 3) := by decide +kernel
theorem dX12_layOut_92 : decode cX12_layOut 92 = .ok (.goto (-35), 3) := by decide +kernel
theorem dX12_layOut_95 : decode cX12_layOut 95 = .ok (.iinc 1 1, 3) := by decide +kernel
theorem dX12_layOut_98 : decode cX12_layOut 98 = .ok (.goto (-51), 3) := by decide +kernel
theorem dX12_layOut_101 : decode cX12_layOut 101 = .ok (.return_, 1) := by decide +kernel
theorem dX12_leastLeft_0 : decode cX12_leastLeft 0 = .ok (.ldc_w 358, 3) := by decide +kernel
theorem dX12_leastLeft_3 : decode cX12_leastLeft 3 = .ok (.istore_n 1, 1) := by decide +kernel
theorem dX12_leastLeft_4 : decode cX12_leastLeft 4 = .ok (.iconst 0, 1) := by decide +kernel
theorem dX12_leastLeft_5 : decode cX12_leastLeft 5 = .ok (.istore_n 2, 1) := by decide +kernel
theorem dX12_leastLeft_6 : decode cX12_leastLeft 6 = .ok (.iload_n 2, 1) := by decide +kernel
theorem dX12_leastLeft_7 : decode cX12_leastLeft 7 = .ok (.iconst 5, 1) := by decide +kernel
theorem dX12_leastLeft_8 : decode cX12_leastLeft 8 = .ok (.if_icmp .ge 35, 3) := by decide +kernel
theorem dX12_leastLeft_11 : decode cX12_leastLeft 11 = .ok (.aload_n 0, 1) := by decide +kernel
theorem dX12_leastLeft_12 : decode cX12_leastLeft 12 = .ok (.getfield 235, 3) := by decide +kernel
theorem dX12_leastLeft_15 : decode cX12_leastLeft 15 = .ok (.iload_n 2, 1) := by decide +kernel
theorem dX12_leastLeft_16 : decode cX12_leastLeft 16 = .ok (.invokestatic 92, 3) := by decide +kernel
theorem dX12_leastLeft_19 : decode cX12_leastLeft 19 = .ok (.ifCond .eq 16, 3) := by decide +kernel
theorem dX12_leastLeft_22 : decode cX12_leastLeft 22 = .ok (.iload_n 1, 1) := by decide +kernel
theorem dX12_leastLeft_23 : decode cX12_leastLeft 23 = .ok (.aload_n 0, 1) := by decide +kernel
theorem dX12_leastLeft_24 : decode cX12_leastLeft 24 = .ok (.getfield 72, 3) := by decide +kernel
theorem dX12_leastLeft_27 : decode cX12_leastLeft 27 = .ok (.iload_n 2, 1) := by decide +kernel
theorem dX12_leastLeft_28 : decode cX12_leastLeft 28 = .ok (.iaload, 1) := by decide +kernel
theorem dX12_leastLeft_29 : decode cX12_leastLeft 29 = .ok (.invokestatic 162, 3) := by decide +kernel
theorem dX12_leastLeft_32 : decode cX12_leastLeft 32 = .ok (.goto 4, 3) := by decide +kernel
theorem dX12_leastLeft_35 : decode cX12_leastLeft 35 = .ok (.iload_n 1, 1) := by decide +kernel
theorem dX12_leastLeft_36 : decode cX12_leastLeft 36 = .ok (.istore_n 1, 1) := by decide +kernel
theorem dX12_leastLeft_37 : decode cX12_leastLeft 37 = .ok (.iinc 2 1, 3) := by decide +kernel
theorem dX12_leastLeft_40 : decode cX12_leastLeft 40 = .ok (.goto (-34), 3) := by decide +kernel
theorem dX12_leastLeft_43 : decode cX12_leastLeft 43 = .ok (.iload_n 1, 1) := by decide +kernel
theorem dX12_leastLeft_44 : decode cX12_leastLeft 44 = .ok (.ireturn, 1) := by decide +kernel
theorem dX12_lastsOf_0 : decode cX12_lastsOf 0 = .ok (.aload_n 0, 1) := by decide +kernel
theorem dX12_lastsOf_1 : decode cX12_lastsOf 1 = .ok (.aload_n 0, 1) := by decide +kernel
theorem dX12_lastsOf_2 : decode cX12_lastsOf 2 = .ok (.getfield 57, 3) := by decide +kernel
theorem dX12_lastsOf_5 : decode cX12_lastsOf 5 = .ok (.iload_n 1, 1) := by decide +kernel
theorem dX12_lastsOf_6 : decode cX12_lastsOf 6 = .ok (.iaload, 1) := by decide +kernel
theorem dX12_lastsOf_7 : decode cX12_lastsOf 7 = .ok (.invokevirtual 349, 3) := by decide +kernel
theorem dX12_lastsOf_10 : decode cX12_lastsOf 10 = .ok (.aload_n 0, 1) := by decide +kernel
theorem dX12_lastsOf_11 : decode cX12_lastsOf 11 = .ok (.invokevirtual 359, 3) := by decide +kernel
theorem dX12_lastsOf_14 : decode cX12_lastsOf 14 = .ok (.istore_n 2, 1) := by decide +kernel
theorem dX12_lastsOf_15 : decode cX12_lastsOf 15 = .ok (.iconst 0, 1) := by decide +kernel
theorem dX12_lastsOf_16 : decode cX12_lastsOf 16 = .ok (.istore_n 3, 1) := by decide +kernel
theorem dX12_lastsOf_17 : decode cX12_lastsOf 17 = .ok (.iload_n 3, 1) := by decide +kernel
theorem dX12_lastsOf_18 : decode cX12_lastsOf 18 = .ok (.iconst 5, 1) := by decide +kernel
theorem dX12_lastsOf_19 : decode cX12_lastsOf 19 = .ok (.if_icmp .ge 71, 3) := by decide +kernel
theorem dX12_lastsOf_22 : decode cX12_lastsOf 22 = .ok (.aload_n 0, 1) := by decide +kernel
theorem dX12_lastsOf_23 : decode cX12_lastsOf 23 = .ok (.aload_n 0, 1) := by decide +kernel
theorem dX12_lastsOf_24 : decode cX12_lastsOf 24 = .ok (.getfield 57, 3) := by decide +kernel
theorem dX12_lastsOf_27 : decode cX12_lastsOf 27 = .ok (.iload_n 1, 1) := by decide +kernel
theorem dX12_lastsOf_28 : decode cX12_lastsOf 28 = .ok (.iaload, 1) := by decide +kernel
theorem dX12_lastsOf_29 : decode cX12_lastsOf 29 = .ok (.invokevirtual 349, 3) := by decide +kernel
theorem dX12_lastsOf_32 : decode cX12_lastsOf 32 = .ok (.aload_n 0, 1) := by decide +kernel
theorem dX12_lastsOf_33 : decode cX12_lastsOf 33 = .ok (.iload_n 3, 1) := by decide +kernel
theorem dX12_lastsOf_34 : decode cX12_lastsOf 34 = .ok (.invokevirtual 352, 3) := by decide +kernel
theorem dX12_lastsOf_37 : decode cX12_lastsOf 37 = .ok (.ifCond .eq 47, 3) := by decide +kernel
theorem dX12_lastsOf_40 : decode cX12_lastsOf 40 = .ok (.aload_n 0, 1) := by decide +kernel
theorem dX12_lastsOf_41 : decode cX12_lastsOf 41 = .ok (.iload_n 3, 1) := by decide +kernel
theorem dX12_lastsOf_42 : decode cX12_lastsOf 42 = .ok (.invokevirtual 334, 3) := by decide +kernel
theorem dX12_lastsOf_45 : decode cX12_lastsOf 45 = .ok (.istore 4, 2) := by decide +kernel
theorem dX12_lastsOf_47 : decode cX12_lastsOf 47 = .ok (.aload_n 0, 1) := by decide +kernel
theorem dX12_lastsOf_48 : decode cX12_lastsOf 48 = .ok (.getfield 63, 3) := by decide +kernel
theorem dX12_lastsOf_51 : decode cX12_lastsOf 51 = .ok (.aload_n 0, 1) := by decide +kernel
theorem dX12_lastsOf_52 : decode cX12_lastsOf 52 = .ok (.getfield 60, 3) := by decide +kernel
theorem dX12_lastsOf_55 : decode cX12_lastsOf 55 = .ok (.aload_n 0, 1) := by decide +kernel
theorem dX12_lastsOf_56 : decode cX12_lastsOf 56 = .ok (.iload_n 3, 1) := by decide +kernel
theorem dX12_lastsOf_57 : decode cX12_lastsOf 57 = .ok (.invokevirtual 355, 3) := by decide +kernel
theorem dX12_lastsOf_60 : decode cX12_lastsOf 60 = .ok (.iaload, 1) := by decide +kernel
theorem dX12_lastsOf_61 : decode cX12_lastsOf 61 = .ok (.iconst 1, 1) := by decide +kernel
theorem dX12_lastsOf_62 : decode cX12_lastsOf 62 = .ok (.isub, 1) := by decide +kernel
theorem dX12_lastsOf_63 : decode cX12_lastsOf 63 = .ok (.iaload, 1) := by decide +kernel
theorem dX12_lastsOf_64 : decode cX12_lastsOf 64 = .ok (.istore 5, 2) := by decide +kernel
theorem dX12_lastsOf_66 : decode cX12_lastsOf 66 = .ok (.iload 5, 2) := by decide +kernel
theorem dX12_lastsOf_68 : decode cX12_lastsOf 68 = .ok (.iconst (-1), 1) := by decide +kernel
theorem dX12_lastsOf_69 : decode cX12_lastsOf 69 = .ok (.if_icmp .ne 5, 3) := by decide +kernel
theorem dX12_lastsOf_72 : decode cX12_lastsOf 72 = .ok (.iconst (-1), 1) := by decide +kernel
theorem dX12_lastsOf_73 : decode cX12_lastsOf 73 = .ok (.ireturn, 1) := by decide +kernel
theorem dX12_lastsOf_74 : decode cX12_lastsOf 74 = .ok (.iload_n 2, 1) := by decide +kernel
theorem dX12_lastsOf_75 : decode cX12_lastsOf 75 = .ok (.iload 4, 2) := by decide +kernel
theorem dX12_lastsOf_77 : decode cX12_lastsOf 77 = .ok (.iload 5, 2) := by decide +kernel
theorem dX12_lastsOf_79 : decode cX12_lastsOf 79 = .ok (.iadd, 1) := by decide +kernel
theorem dX12_lastsOf_80 : decode cX12_lastsOf 80 = .ok (.invokestatic 280, 3) := by decide +kernel
theorem dX12_lastsOf_83 : decode cX12_lastsOf 83 = .ok (.istore_n 2, 1) := by decide +kernel
theorem dX12_lastsOf_84 : decode cX12_lastsOf 84 = .ok (.iinc 3 1, 3) := by decide +kernel
theorem dX12_lastsOf_87 : decode cX12_lastsOf 87 = .ok (.goto (-70), 3) := by decide +kernel
theorem dX12_lastsOf_90 : decode cX12_lastsOf 90 = .ok (.iload_n 2, 1) := by decide +kernel
theorem dX12_lastsOf_91 : decode cX12_lastsOf 91 = .ok (.ireturn, 1) := by decide +kernel
theorem dX12_isForever_0 : decode cX12_isForever 0 = .ok (.aload_n 0, 1) := by decide +kernel
theorem dX12_isForever_1 : decode cX12_isForever 1 = .ok (.invokevirtual 362, 3) := by decide +kernel
theorem dX12_isForever_4 : decode cX12_isForever 4 = .ok (.aload_n 0, 1) := by decide +kernel
theorem dX12_isForever_5 : decode cX12_isForever 5 = .ok (.getfield 235, 3) := by decide +kernel
theorem dX12_isForever_8 : decode cX12_isForever 8 = .ok (.ifCond .ne 5, 3) := by decide +kernel
theorem dX12_isForever_11 : decode cX12_isForever 11 = .ok (.iconst 1, 1) := by decide +kernel
theorem dX12_isForever_12 : decode cX12_isForever 12 = .ok (.ireturn, 1) := by decide +kernel
theorem dX12_isForever_13 : decode cX12_isForever 13 = .ok (.iconst 0, 1) := by decide +kernel
theorem dX12_isForever_14 : decode cX12_isForever 14 = .ok (.istore_n 1, 1) := by decide +kernel
theorem dX12_isForever_15 : decode cX12_isForever 15 = .ok (.iload_n 1, 1) := by decide +kernel
theorem dX12_isForever_16 : decode cX12_isForever 16 = .ok (.aload_n 0, 1) := by decide +kernel
theorem dX12_isForever_17 : decode cX12_isForever 17 = .ok (.getfield 340, 3) := by decide +kernel
theorem dX12_isForever_20 : decode cX12_isForever 20 = .ok (.if_icmp .ge 16, 3) := by decide +kernel
theorem dX12_isForever_23 : decode cX12_isForever 23 = .ok (.aload_n 0, 1) := by decide +kernel
theorem dX12_isForever_24 : decode cX12_isForever 24 = .ok (.getfield 63, 3) := by decide +kernel
theorem dX12_isForever_27 : decode cX12_isForever 27 = .ok (.iload_n 1, 1) := by decide +kernel
theorem dX12_isForever_28 : decode cX12_isForever 28 = .ok (.iconst (-1), 1) := by decide +kernel
theorem dX12_isForever_29 : decode cX12_isForever 29 = .ok (.iastore, 1) := by decide +kernel
theorem dX12_isForever_30 : decode cX12_isForever 30 = .ok (.iinc 1 1, 3) := by decide +kernel
theorem dX12_isForever_33 : decode cX12_isForever 33 = .ok (.goto (-18), 3) := by decide +kernel
theorem dX12_isForever_36 : decode cX12_isForever 36 = .ok (.iconst 1, 1) := by decide +kernel
theorem dX12_isForever_37 : decode cX12_isForever 37 = .ok (.istore_n 1, 1) := by decide +kernel
theorem dX12_isForever_38 : decode cX12_isForever 38 = .ok (.iload_n 1, 1) := by decide +kernel
theorem dX12_isForever_39 : decode cX12_isForever 39 = .ok (.ifCond .eq 66, 3) := by decide +kernel
theorem dX12_isForever_42 : decode cX12_isForever 42 = .ok (.iconst 0, 1) := by decide +kernel
theorem dX12_isForever_43 : decode cX12_isForever 43 = .ok (.istore_n 1, 1) := by decide +kernel
theorem dX12_isForever_44 : decode cX12_isForever 44 = .ok (.aload_n 0, 1) := by decide +kernel
theorem dX12_isForever_45 : decode cX12_isForever 45 = .ok (.getfield 340, 3) := by decide +kernel
theorem dX12_isForever_48 : decode cX12_isForever 48 = .ok (.iconst 1, 1) := by decide +kernel
theorem dX12_isForever_49 : decode cX12_isForever 49 = .ok (.isub, 1) := by decide +kernel
theorem dX12_isForever_50 : decode cX12_isForever 50 = .ok (.istore_n 2, 1) := by decide +kernel
theorem dX12_isForever_51 : decode cX12_isForever 51 = .ok (.iload_n 2, 1) := by decide +kernel
theorem dX12_isForever_52 : decode cX12_isForever 52 = .ok (.ifCond .lt 50, 3) := by decide +kernel
theorem dX12_isForever_55 : decode cX12_isForever 55 = .ok (.aload_n 0, 1) := by decide +kernel
theorem dX12_isForever_56 : decode cX12_isForever 56 = .ok (.getfield 63, 3) := by decide +kernel
theorem dX12_isForever_59 : decode cX12_isForever 59 = .ok (.iload_n 2, 1) := by decide +kernel
theorem dX12_isForever_60 : decode cX12_isForever 60 = .ok (.iaload, 1) := by decide +kernel
theorem dX12_isForever_61 : decode cX12_isForever 61 = .ok (.iconst (-1), 1) := by decide +kernel
theorem dX12_isForever_62 : decode cX12_isForever 62 = .ok (.if_icmp .ne 34, 3) := by decide +kernel
theorem dX12_isForever_65 : decode cX12_isForever 65 = .ok (.aload_n 0, 1) := by decide +kernel
theorem dX12_isForever_66 : decode cX12_isForever 66 = .ok (.getfield 63, 3) := by decide +kernel
theorem dX12_isForever_69 : decode cX12_isForever 69 = .ok (.iload_n 2, 1) := by decide +kernel
theorem dX12_isForever_70 : decode cX12_isForever 70 = .ok (.aload_n 0, 1) := by decide +kernel
theorem dX12_isForever_71 : decode cX12_isForever 71 = .ok (.iload_n 2, 1) := by decide +kernel
theorem dX12_isForever_72 : decode cX12_isForever 72 = .ok (.invokevirtual 365, 3) := by decide +kernel
theorem dX12_isForever_75 : decode cX12_isForever 75 = .ok (.iastore, 1) := by decide +kernel
theorem dX12_isForever_76 : decode cX12_isForever 76 = .ok (.iload_n 1, 1) := by decide +kernel
theorem dX12_isForever_77 : decode cX12_isForever 77 = .ok (.ifCond .ne 13, 3) := by decide +kernel
theorem dX12_isForever_80 : decode cX12_isForever 80 = .ok (.aload_n 0, 1) := by decide +kernel
theorem dX12_isForever_81 : decode cX12_isForever 81 = .ok (.getfield 63, 3) := by decide +kernel
theorem dX12_isForever_84 : decode cX12_isForever 84 = .ok (.iload_n 2, 1) := by decide +kernel
theorem dX12_isForever_85 : decode cX12_isForever 85 = .ok (.iaload, 1) := by decide +kernel
theorem dX12_isForever_86 : decode cX12_isForever 86 = .ok (.iconst (-1), 1) := by decide +kernel
theorem dX12_isForever_87 : decode cX12_isForever 87 = .ok (.if_icmp .eq 7, 3) := by decide +kernel
theorem dX12_isForever_90 : decode cX12_isForever 90 = .ok (.iconst 1, 1) := by decide +kernel
theorem dX12_isForever_91 : decode cX12_isForever 91 = .ok (.goto 4, 3) := by decide +kernel
theorem dX12_isForever_94 : decode cX12_isForever 94 = .ok (.iconst 0, 1) := by decide +kernel
theorem dX12_isForever_95 : decode cX12_isForever 95 = .ok (.istore_n 1, 1) := by decide +kernel
theorem dX12_isForever_96 : decode cX12_isForever 96 = .ok (.iinc 2 (-1), 3) := by decide +kernel
theorem dX12_isForever_99 : decode cX12_isForever 99 = .ok (.goto (-48), 3) := by decide +kernel
theorem dX12_isForever_102 : decode cX12_isForever 102 = .ok (.goto (-64), 3) := by decide +kernel
theorem dX12_isForever_105 : decode cX12_isForever 105 = .ok (.aload_n 0, 1) := by decide +kernel
theorem dX12_isForever_106 : decode cX12_isForever 106 = .ok (.getfield 63, 3) := by decide +kernel
theorem dX12_isForever_109 : decode cX12_isForever 109 = .ok (.iconst 0, 1) := by decide +kernel
theorem dX12_isForever_110 : decode cX12_isForever 110 = .ok (.iaload, 1) := by decide +kernel
theorem dX12_isForever_111 : decode cX12_isForever 111 = .ok (.iconst (-1), 1) := by decide +kernel
theorem dX12_isForever_112 : decode cX12_isForever 112 = .ok (.if_icmp .ne 7, 3) := by decide +kernel
theorem dX12_isForever_115 : decode cX12_isForever 115 = .ok (.iconst 1, 1) := by decide +kernel
theorem dX12_isForever_116 : decode cX12_isForever 116 = .ok (.goto 4, 3) := by decide +kernel
theorem dX12_isForever_119 : decode cX12_isForever 119 = .ok (.iconst 0, 1) := by decide +kernel
theorem dX12_isForever_120 : decode cX12_isForever 120 = .ok (.ireturn, 1) := by decide +kernel
theorem dX12_nextRun_0 : decode cX12_nextRun 0 = .ok (.aload_n 0, 1) := by decide +kernel
theorem dX12_nextRun_1 : decode cX12_nextRun 1 = .ok (.aload_n 0, 1) := by decide +kernel
theorem dX12_nextRun_2 : decode cX12_nextRun 2 = .ok (.getfield 57, 3) := by decide +kernel
theorem dX12_nextRun_5 : decode cX12_nextRun 5 = .ok (.iload_n 1, 1) := by decide +kernel
theorem dX12_nextRun_6 : decode cX12_nextRun 6 = .ok (.iaload, 1) := by decide +kernel
theorem dX12_nextRun_7 : decode cX12_nextRun 7 = .ok (.invokevirtual 349, 3) := by decide +kernel
theorem dX12_nextRun_10 : decode cX12_nextRun 10 = .ok (.aload_n 0, 1) := by decide +kernel
theorem dX12_nextRun_11 : decode cX12_nextRun 11 = .ok (.getfield 63, 3) := by decide +kernel
theorem dX12_nextRun_14 : decode cX12_nextRun 14 = .ok (.iload_n 1, 1) := by decide +kernel
theorem dX12_nextRun_15 : decode cX12_nextRun 15 = .ok (.iaload, 1) := by decide +kernel
theorem dX12_nextRun_16 : decode cX12_nextRun 16 = .ok (.iconst (-1), 1) := by decide +kernel
theorem dX12_nextRun_17 : decode cX12_nextRun 17 = .ok (.if_icmp .eq 18, 3) := by decide +kernel
theorem dX12_nextRun_20 : decode cX12_nextRun 20 = .ok (.aload_n 0, 1) := by decide +kernel
theorem dX12_nextRun_21 : decode cX12_nextRun 21 = .ok (.invokevirtual 359, 3) := by decide +kernel
theorem dX12_nextRun_24 : decode cX12_nextRun 24 = .ok (.aload_n 0, 1) := by decide +kernel
theorem dX12_nextRun_25 : decode cX12_nextRun 25 = .ok (.getfield 63, 3) := by decide +kernel
theorem dX12_nextRun_28 : decode cX12_nextRun 28 = .ok (.iload_n 1, 1) := by decide +kernel
theorem dX12_nextRun_29 : decode cX12_nextRun 29 = .ok (.iaload, 1) := by decide +kernel
theorem dX12_nextRun_30 : decode cX12_nextRun 30 = .ok (.if_icmp .ne 5, 3) := by decide +kernel
theorem dX12_nextRun_33 : decode cX12_nextRun 33 = .ok (.iconst (-1), 1) := by decide +kernel
theorem dX12_nextRun_34 : decode cX12_nextRun 34 = .ok (.ireturn, 1) := by decide +kernel
theorem dX12_nextRun_35 : decode cX12_nextRun 35 = .ok (.iconst 0, 1) := by decide +kernel
theorem dX12_nextRun_36 : decode cX12_nextRun 36 = .ok (.istore_n 2, 1) := by decide +kernel
theorem dX12_nextRun_37 : decode cX12_nextRun 37 = .ok (.iload_n 2, 1) := by decide +kernel
theorem dX12_nextRun_38 : decode cX12_nextRun 38 = .ok (.iconst 5, 1) := by decide +kernel
theorem dX12_nextRun_39 : decode cX12_nextRun 39 = .ok (.if_icmp .ge 86, 3) := by decide +kernel
theorem dX12_nextRun_42 : decode cX12_nextRun 42 = .ok (.aload_n 0, 1) := by decide +kernel
theorem dX12_nextRun_43 : decode cX12_nextRun 43 = .ok (.aload_n 0, 1) := by decide +kernel
theorem dX12_nextRun_44 : decode cX12_nextRun 44 = .ok (.getfield 57, 3) := by decide +kernel
theorem dX12_nextRun_47 : decode cX12_nextRun 47 = .ok (.iload_n 1, 1) := by decide +kernel
theorem dX12_nextRun_48 : decode cX12_nextRun 48 = .ok (.iaload, 1) := by decide +kernel
theorem dX12_nextRun_49 : decode cX12_nextRun 49 = .ok (.invokevirtual 349, 3) := by decide +kernel
theorem dX12_nextRun_52 : decode cX12_nextRun 52 = .ok (.aload_n 0, 1) := by decide +kernel
theorem dX12_nextRun_53 : decode cX12_nextRun 53 = .ok (.iload_n 2, 1) := by decide +kernel
theorem dX12_nextRun_54 : decode cX12_nextRun 54 = .ok (.invokevirtual 352, 3) := by decide +kernel
theorem dX12_nextRun_57 : decode cX12_nextRun 57 = .ok (.ifCond .eq 62, 3) := by decide +kernel
theorem dX12_nextRun_60 : decode cX12_nextRun 60 = .ok (.aload_n 0, 1) := by decide +kernel
theorem dX12_nextRun_61 : decode cX12_nextRun 61 = .ok (.iload_n 2, 1) := by decide +kernel
theorem dX12_nextRun_62 : decode cX12_nextRun 62 = .ok (.invokevirtual 334, 3) := by decide +kernel
theorem dX12_nextRun_65 : decode cX12_nextRun 65 = .ok (.istore_n 3, 1) := by decide +kernel
theorem dX12_nextRun_66 : decode cX12_nextRun 66 = .ok (.aload_n 0, 1) := by decide +kernel
theorem dX12_nextRun_67 : decode cX12_nextRun 67 = .ok (.getfield 63, 3) := by decide +kernel
theorem dX12_nextRun_70 : decode cX12_nextRun 70 = .ok (.aload_n 0, 1) := by decide +kernel
theorem dX12_nextRun_71 : decode cX12_nextRun 71 = .ok (.getfield 60, 3) := by decide +kernel
theorem dX12_nextRun_74 : decode cX12_nextRun 74 = .ok (.aload_n 0, 1) := by decide +kernel
theorem dX12_nextRun_75 : decode cX12_nextRun 75 = .ok (.iload_n 2, 1) := by decide +kernel
theorem dX12_nextRun_76 : decode cX12_nextRun 76 = .ok (.invokevirtual 355, 3) := by decide +kernel
theorem dX12_nextRun_79 : decode cX12_nextRun 79 = .ok (.iaload, 1) := by decide +kernel
theorem dX12_nextRun_80 : decode cX12_nextRun 80 = .ok (.iconst 1, 1) := by decide +kernel
theorem dX12_nextRun_81 : decode cX12_nextRun 81 = .ok (.isub, 1) := by decide +kernel
theorem dX12_nextRun_82 : decode cX12_nextRun 82 = .ok (.iaload, 1) := by decide +kernel
theorem dX12_nextRun_83 : decode cX12_nextRun 83 = .ok (.istore 4, 2) := by decide +kernel
theorem dX12_nextRun_85 : decode cX12_nextRun 85 = .ok (.aload_n 0, 1) := by decide +kernel
theorem dX12_nextRun_86 : decode cX12_nextRun 86 = .ok (.getfield 63, 3) := by decide +kernel
theorem dX12_nextRun_89 : decode cX12_nextRun 89 = .ok (.iload_n 1, 1) := by decide +kernel
theorem dX12_nextRun_90 : decode cX12_nextRun 90 = .ok (.iaload, 1) := by decide +kernel
theorem dX12_nextRun_91 : decode cX12_nextRun 91 = .ok (.iconst (-1), 1) := by decide +kernel
theorem dX12_nextRun_92 : decode cX12_nextRun 92 = .ok (.if_icmp .ne 12, 3) := by decide +kernel
theorem dX12_nextRun_95 : decode cX12_nextRun 95 = .ok (.iload 4, 2) := by decide +kernel
theorem dX12_nextRun_97 : decode cX12_nextRun 97 = .ok (.iconst (-1), 1) := by decide +kernel
theorem dX12_nextRun_98 : decode cX12_nextRun 98 = .ok (.if_icmp .ne 21, 3) := by decide +kernel
theorem dX12_nextRun_101 : decode cX12_nextRun 101 = .ok (.goto 16, 3) := by decide +kernel
theorem dX12_nextRun_104 : decode cX12_nextRun 104 = .ok (.iload_n 3, 1) := by decide +kernel
theorem dX12_nextRun_105 : decode cX12_nextRun 105 = .ok (.iload 4, 2) := by decide +kernel
theorem dX12_nextRun_107 : decode cX12_nextRun 107 = .ok (.iadd, 1) := by decide +kernel
theorem dX12_nextRun_108 : decode cX12_nextRun 108 = .ok (.aload_n 0, 1) := by decide +kernel
theorem dX12_nextRun_109 : decode cX12_nextRun 109 = .ok (.getfield 63, 3) := by decide +kernel
theorem dX12_nextRun_112 : decode cX12_nextRun 112 = .ok (.iload_n 1, 1) := by decide +kernel
theorem dX12_nextRun_113 : decode cX12_nextRun 113 = .ok (.iaload, 1) := by decide +kernel
theorem dX12_nextRun_114 : decode cX12_nextRun 114 = .ok (.if_icmp .ne 5, 3) := by decide +kernel
theorem dX12_nextRun_117 : decode cX12_nextRun 117 = .ok (.iload_n 2, 1) := by decide +kernel
theorem dX12_nextRun_118 : decode cX12_nextRun 118 = .ok (.ireturn, 1) := by decide +kernel
theorem dX12_nextRun_119 : decode cX12_nextRun 119 = .ok (.iinc 2 1, 3) := by decide +kernel
theorem dX12_nextRun_122 : decode cX12_nextRun 122 = .ok (.goto (-85), 3) := by decide +kernel
theorem dX12_nextRun_125 : decode cX12_nextRun 125 = .ok (.iconst (-1), 1) := by decide +kernel
theorem dX12_nextRun_126 : decode cX12_nextRun 126 = .ok (.ireturn, 1) := by decide +kernel
theorem dX12_standBehind_0 : decode cX12_standBehind 0 = .ok (.aload_n 0, 1) := by decide +kernel
theorem dX12_standBehind_1 : decode cX12_standBehind 1 = .ok (.aload_n 0, 1) := by decide +kernel
theorem dX12_standBehind_2 : decode cX12_standBehind 2 = .ok (.getfield 57, 3) := by decide +kernel
theorem dX12_standBehind_5 : decode cX12_standBehind 5 = .ok (.iload_n 1, 1) := by decide +kernel
theorem dX12_standBehind_6 : decode cX12_standBehind 6 = .ok (.iaload, 1) := by decide +kernel
theorem dX12_standBehind_7 : decode cX12_standBehind 7 = .ok (.invokevirtual 349, 3) := by decide +kernel
theorem dX12_standBehind_10 : decode cX12_standBehind 10 = .ok (.aload_n 0, 1) := by decide +kernel
theorem dX12_standBehind_11 : decode cX12_standBehind 11 = .ok (.dup, 1) := by decide +kernel
theorem dX12_standBehind_12 : decode cX12_standBehind 12 = .ok (.getfield 368, 3) := by decide +kernel
theorem dX12_standBehind_15 : decode cX12_standBehind 15 = .ok (.aload_n 0, 1) := by decide +kernel
theorem dX12_standBehind_16 : decode cX12_standBehind 16 = .ok (.iload_n 2, 1) := by decide +kernel
theorem dX12_standBehind_17 : decode cX12_standBehind 17 = .ok (.invokevirtual 334, 3) := by decide +kernel
theorem dX12_standBehind_20 : decode cX12_standBehind 20 = .ok (.iadd, 1) := by decide +kernel
theorem dX12_standBehind_21 : decode cX12_standBehind 21 = .ok (.putfield 368, 3) := by decide +kernel
theorem dX12_standBehind_24 : decode cX12_standBehind 24 = .ok (.aload_n 0, 1) := by decide +kernel
theorem dX12_standBehind_25 : decode cX12_standBehind 25 = .ok (.getfield 60, 3) := by decide +kernel
theorem dX12_standBehind_28 : decode cX12_standBehind 28 = .ok (.aload_n 0, 1) := by decide +kernel
theorem dX12_standBehind_29 : decode cX12_standBehind 29 = .ok (.iload_n 2, 1) := by decide +kernel
theorem dX12_standBehind_30 : decode cX12_standBehind 30 = .ok (.invokevirtual 355, 3) := by decide +kernel
theorem dX12_standBehind_33 : decode cX12_standBehind 33 = .ok (.iaload, 1) := by decide +kernel
theorem dX12_standBehind_34 : decode cX12_standBehind 34 = .ok (.iconst 1, 1) := by decide +kernel
theorem dX12_standBehind_35 : decode cX12_standBehind 35 = .ok (.isub, 1) := by decide +kernel
theorem dX12_standBehind_36 : decode cX12_standBehind 36 = .ok (.ireturn, 1) := by decide +kernel
theorem dX12_runAt_0 : decode cX12_runAt 0 = .ok (.iconst 0, 1) := by decide +kernel
theorem dX12_runAt_1 : decode cX12_runAt 1 = .ok (.istore_n 2, 1) := by decide +kernel
theorem dX12_runAt_2 : decode cX12_runAt 2 = .ok (.iconst 0, 1) := by decide +kernel
theorem dX12_runAt_3 : decode cX12_runAt 3 = .ok (.istore_n 3, 1) := by decide +kernel
theorem dX12_runAt_4 : decode cX12_runAt 4 = .ok (.iload_n 3, 1) := by decide +kernel
theorem dX12_runAt_5 : decode cX12_runAt 5 = .ok (.iload_n 1, 1) := by decide +kernel
theorem dX12_runAt_6 : decode cX12_runAt 6 = .ok (.if_icmp .ge 32, 3) := by decide +kernel
theorem dX12_runAt_9 : decode cX12_runAt 9 = .ok (.aload_n 0, 1) := by decide +kernel
theorem dX12_runAt_10 : decode cX12_runAt 10 = .ok (.iload_n 2, 1) := by decide +kernel
theorem dX12_runAt_11 : decode cX12_runAt 11 = .ok (.invokevirtual 371, 3) := by decide +kernel
theorem dX12_runAt_14 : decode cX12_runAt 14 = .ok (.istore 4, 2) := by decide +kernel
theorem dX12_runAt_16 : decode cX12_runAt 16 = .ok (.iload 4, 2) := by decide +kernel
theorem dX12_runAt_18 : decode cX12_runAt 18 = .ok (.iconst (-1), 1) := by decide +kernel
theorem dX12_runAt_19 : decode cX12_runAt 19 = .ok (.if_icmp .ne 5, 3) := by decide +kernel
theorem dX12_runAt_22 : decode cX12_runAt 22 = .ok (.iconst (-1), 1) := by decide +kernel
theorem dX12_runAt_23 : decode cX12_runAt 23 = .ok (.ireturn, 1) := by decide +kernel
theorem dX12_runAt_24 : decode cX12_runAt 24 = .ok (.aload_n 0, 1) := by decide +kernel
theorem dX12_runAt_25 : decode cX12_runAt 25 = .ok (.iload_n 2, 1) := by decide +kernel
theorem dX12_runAt_26 : decode cX12_runAt 26 = .ok (.iload 4, 2) := by decide +kernel
theorem dX12_runAt_28 : decode cX12_runAt 28 = .ok (.invokevirtual 374, 3) := by decide +kernel
theorem dX12_runAt_31 : decode cX12_runAt 31 = .ok (.istore_n 2, 1) := by decide +kernel
theorem dX12_runAt_32 : decode cX12_runAt 32 = .ok (.iinc 3 1, 3) := by decide +kernel
theorem dX12_runAt_35 : decode cX12_runAt 35 = .ok (.goto (-31), 3) := by decide +kernel
theorem dX12_runAt_38 : decode cX12_runAt 38 = .ok (.aload_n 0, 1) := by decide +kernel
theorem dX12_runAt_39 : decode cX12_runAt 39 = .ok (.iload_n 2, 1) := by decide +kernel
theorem dX12_runAt_40 : decode cX12_runAt 40 = .ok (.invokevirtual 371, 3) := by decide +kernel
theorem dX12_runAt_43 : decode cX12_runAt 43 = .ok (.ireturn, 1) := by decide +kernel
theorem dX12_manyRuns_0 : decode cX12_manyRuns 0 = .ok (.iconst 0, 1) := by decide +kernel
theorem dX12_manyRuns_1 : decode cX12_manyRuns 1 = .ok (.istore_n 1, 1) := by decide +kernel
theorem dX12_manyRuns_2 : decode cX12_manyRuns 2 = .ok (.iconst 0, 1) := by decide +kernel
theorem dX12_manyRuns_3 : decode cX12_manyRuns 3 = .ok (.istore_n 2, 1) := by decide +kernel
theorem dX12_manyRuns_4 : decode cX12_manyRuns 4 = .ok (.aload_n 0, 1) := by decide +kernel
theorem dX12_manyRuns_5 : decode cX12_manyRuns 5 = .ok (.iconst 0, 1) := by decide +kernel
theorem dX12_manyRuns_6 : decode cX12_manyRuns 6 = .ok (.invokevirtual 371, 3) := by decide +kernel
theorem dX12_manyRuns_9 : decode cX12_manyRuns 9 = .ok (.istore_n 3, 1) := by decide +kernel
theorem dX12_manyRuns_10 : decode cX12_manyRuns 10 = .ok (.iload_n 3, 1) := by decide +kernel
theorem dX12_manyRuns_11 : decode cX12_manyRuns 11 = .ok (.iconst (-1), 1) := by decide +kernel
theorem dX12_manyRuns_12 : decode cX12_manyRuns 12 = .ok (.if_icmp .eq 22, 3) := by decide +kernel
theorem dX12_manyRuns_15 : decode cX12_manyRuns 15 = .ok (.aload_n 0, 1) := by decide +kernel
theorem dX12_manyRuns_16 : decode cX12_manyRuns 16 = .ok (.iload_n 2, 1) := by decide +kernel
theorem dX12_manyRuns_17 : decode cX12_manyRuns 17 = .ok (.iload_n 3, 1) := by decide +kernel
theorem dX12_manyRuns_18 : decode cX12_manyRuns 18 = .ok (.invokevirtual 374, 3) := by decide +kernel
theorem dX12_manyRuns_21 : decode cX12_manyRuns 21 = .ok (.istore_n 2, 1) := by decide +kernel
theorem dX12_manyRuns_22 : decode cX12_manyRuns 22 = .ok (.iinc 1 1, 3) := by decide +kernel
theorem dX12_manyRuns_25 : decode cX12_manyRuns 25 = .ok (.aload_n 0, 1) := by decide +kernel
theorem dX12_manyRuns_26 : decode cX12_manyRuns 26 = .ok (.iload_n 2, 1) := by decide +kernel
theorem dX12_manyRuns_27 : decode cX12_manyRuns 27 = .ok (.invokevirtual 371, 3) := by decide +kernel
theorem dX12_manyRuns_30 : decode cX12_manyRuns 30 = .ok (.istore_n 3, 1) := by decide +kernel
theorem dX12_manyRuns_31 : decode cX12_manyRuns 31 = .ok (.goto (-21), 3) := by decide +kernel
theorem dX12_manyRuns_34 : decode cX12_manyRuns 34 = .ok (.iload_n 1, 1) := by decide +kernel
theorem dX12_manyRuns_35 : decode cX12_manyRuns 35 = .ok (.ireturn, 1) := by decide +kernel
theorem dX12_roundBy_0 : decode cX12_roundBy 0 = .ok (.iconst 0, 1) := by decide +kernel
theorem dX12_roundBy_1 : decode cX12_roundBy 1 = .ok (.istore_n 2, 1) := by decide +kernel
theorem dX12_roundBy_2 : decode cX12_roundBy 2 = .ok (.iload_n 2, 1) := by decide +kernel
theorem dX12_roundBy_3 : decode cX12_roundBy 3 = .ok (.aload_n 0, 1) := by decide +kernel
theorem dX12_roundBy_4 : decode cX12_roundBy 4 = .ok (.getfield 340, 3) := by decide +kernel
theorem dX12_roundBy_7 : decode cX12_roundBy 7 = .ok (.if_icmp .ge 16, 3) := by decide +kernel
theorem dX12_roundBy_10 : decode cX12_roundBy 10 = .ok (.aload_n 0, 1) := by decide +kernel
theorem dX12_roundBy_11 : decode cX12_roundBy 11 = .ok (.getfield 66, 3) := by decide +kernel
theorem dX12_roundBy_14 : decode cX12_roundBy 14 = .ok (.iload_n 2, 1) := by decide +kernel
theorem dX12_roundBy_15 : decode cX12_roundBy 15 = .ok (.iconst (-1), 1) := by decide +kernel
theorem dX12_roundBy_16 : decode cX12_roundBy 16 = .ok (.iastore, 1) := by decide +kernel
theorem dX12_roundBy_17 : decode cX12_roundBy 17 = .ok (.iinc 2 1, 3) := by decide +kernel
theorem dX12_roundBy_20 : decode cX12_roundBy 20 = .ok (.goto (-18), 3) := by decide +kernel
theorem dX12_roundBy_23 : decode cX12_roundBy 23 = .ok (.aload_n 0, 1) := by decide +kernel
theorem dX12_roundBy_24 : decode cX12_roundBy 24 = .ok (.iconst 0, 1) := by decide +kernel
theorem dX12_roundBy_25 : decode cX12_roundBy 25 = .ok (.putfield 368, 3) := by decide +kernel
theorem dX12_roundBy_28 : decode cX12_roundBy 28 = .ok (.iconst 0, 1) := by decide +kernel
theorem dX12_roundBy_29 : decode cX12_roundBy 29 = .ok (.istore_n 2, 1) := by decide +kernel
theorem dX12_roundBy_30 : decode cX12_roundBy 30 = .ok (.iconst 0, 1) := by decide +kernel
theorem dX12_roundBy_31 : decode cX12_roundBy 31 = .ok (.istore_n 3, 1) := by decide +kernel
theorem dX12_roundBy_32 : decode cX12_roundBy 32 = .ok (.aload_n 0, 1) := by decide +kernel
theorem dX12_roundBy_33 : decode cX12_roundBy 33 = .ok (.getfield 66, 3) := by decide +kernel
theorem dX12_roundBy_36 : decode cX12_roundBy 36 = .ok (.iload_n 3, 1) := by decide +kernel
theorem dX12_roundBy_37 : decode cX12_roundBy 37 = .ok (.iaload, 1) := by decide +kernel
theorem dX12_roundBy_38 : decode cX12_roundBy 38 = .ok (.iconst (-1), 1) := by decide +kernel
theorem dX12_roundBy_39 : decode cX12_roundBy 39 = .ok (.if_icmp .ne 37, 3) := by decide +kernel
theorem dX12_roundBy_42 : decode cX12_roundBy 42 = .ok (.aload_n 0, 1) := by decide +kernel
theorem dX12_roundBy_43 : decode cX12_roundBy 43 = .ok (.getfield 66, 3) := by decide +kernel
theorem dX12_roundBy_46 : decode cX12_roundBy 46 = .ok (.iload_n 3, 1) := by decide +kernel
theorem dX12_roundBy_47 : decode cX12_roundBy 47 = .ok (.iload_n 2, 1) := by decide +kernel
theorem dX12_roundBy_48 : decode cX12_roundBy 48 = .ok (.iastore, 1) := by decide +kernel
theorem dX12_roundBy_49 : decode cX12_roundBy 49 = .ok (.aload_n 0, 1) := by decide +kernel
theorem dX12_roundBy_50 : decode cX12_roundBy 50 = .ok (.getfield 69, 3) := by decide +kernel
theorem dX12_roundBy_53 : decode cX12_roundBy 53 = .ok (.iload_n 3, 1) := by decide +kernel
theorem dX12_roundBy_54 : decode cX12_roundBy 54 = .ok (.aload_n 0, 1) := by decide +kernel
theorem dX12_roundBy_55 : decode cX12_roundBy 55 = .ok (.getfield 368, 3) := by decide +kernel
theorem dX12_roundBy_58 : decode cX12_roundBy 58 = .ok (.iastore, 1) := by decide +kernel
theorem dX12_roundBy_59 : decode cX12_roundBy 59 = .ok (.aload_n 0, 1) := by decide +kernel
theorem dX12_roundBy_60 : decode cX12_roundBy 60 = .ok (.iload_n 3, 1) := by decide +kernel
theorem dX12_roundBy_61 : decode cX12_roundBy 61 = .ok (.aload_n 0, 1) := by decide +kernel
theorem dX12_roundBy_62 : decode cX12_roundBy 62 = .ok (.iload_n 3, 1) := by decide +kernel
theorem dX12_roundBy_63 : decode cX12_roundBy 63 = .ok (.invokevirtual 371, 3) := by decide +kernel
theorem dX12_roundBy_66 : decode cX12_roundBy 66 = .ok (.invokevirtual 374, 3) := by decide +kernel
theorem dX12_roundBy_69 : decode cX12_roundBy 69 = .ok (.istore_n 3, 1) := by decide +kernel
theorem dX12_roundBy_70 : decode cX12_roundBy 70 = .ok (.iinc 2 1, 3) := by decide +kernel
theorem dX12_roundBy_73 : decode cX12_roundBy 73 = .ok (.goto (-41), 3) := by decide +kernel
theorem dX12_roundBy_76 : decode cX12_roundBy 76 = .ok (.iload_n 1, 1) := by decide +kernel
theorem dX12_roundBy_77 : decode cX12_roundBy 77 = .ok (.iconst 2, 1) := by decide +kernel
theorem dX12_roundBy_78 : decode cX12_roundBy 78 = .ok (.if_icmp .ne 12, 3) := by decide +kernel
theorem dX12_roundBy_81 : decode cX12_roundBy 81 = .ok (.aload_n 0, 1) := by decide +kernel
theorem dX12_roundBy_82 : decode cX12_roundBy 82 = .ok (.getfield 66, 3) := by decide +kernel
theorem dX12_roundBy_85 : decode cX12_roundBy 85 = .ok (.iload_n 3, 1) := by decide +kernel
theorem dX12_roundBy_86 : decode cX12_roundBy 86 = .ok (.iaload, 1) := by decide +kernel
theorem dX12_roundBy_87 : decode cX12_roundBy 87 = .ok (.goto 30, 3) := by decide +kernel
theorem dX12_roundBy_90 : decode cX12_roundBy 90 = .ok (.iload_n 1, 1) := by decide +kernel
theorem dX12_roundBy_91 : decode cX12_roundBy 91 = .ok (.iconst 3, 1) := by decide +kernel
theorem dX12_roundBy_92 : decode cX12_roundBy 92 = .ok (.if_icmp .ne 14, 3) := by decide +kernel
theorem dX12_roundBy_95 : decode cX12_roundBy 95 = .ok (.iload_n 2, 1) := by decide +kernel
theorem dX12_roundBy_96 : decode cX12_roundBy 96 = .ok (.aload_n 0, 1) := by decide +kernel
theorem dX12_roundBy_97 : decode cX12_roundBy 97 = .ok (.getfield 66, 3) := by decide +kernel
theorem dX12_roundBy_100 : decode cX12_roundBy 100 = .ok (.iload_n 3, 1) := by decide +kernel
theorem dX12_roundBy_101 : decode cX12_roundBy 101 = .ok (.iaload, 1) := by decide +kernel
theorem dX12_roundBy_102 : decode cX12_roundBy 102 = .ok (.isub, 1) := by decide +kernel
theorem dX12_roundBy_103 : decode cX12_roundBy 103 = .ok (.goto 14, 3) := by decide +kernel
theorem dX12_roundBy_106 : decode cX12_roundBy 106 = .ok (.aload_n 0, 1) := by decide +kernel
theorem dX12_roundBy_107 : decode cX12_roundBy 107 = .ok (.getfield 368, 3) := by decide +kernel
theorem dX12_roundBy_110 : decode cX12_roundBy 110 = .ok (.aload_n 0, 1) := by decide +kernel
theorem dX12_roundBy_111 : decode cX12_roundBy 111 = .ok (.getfield 69, 3) := by decide +kernel
theorem dX12_roundBy_114 : decode cX12_roundBy 114 = .ok (.iload_n 3, 1) := by decide +kernel
theorem dX12_roundBy_115 : decode cX12_roundBy 115 = .ok (.iaload, 1) := by decide +kernel
theorem dX12_roundBy_116 : decode cX12_roundBy 116 = .ok (.isub, 1) := by decide +kernel
theorem dX12_roundBy_117 : decode cX12_roundBy 117 = .ok (.ireturn, 1) := by decide +kernel
theorem dX12_keep_0 : decode cX12_keep 0 = .ok (.aload_n 0, 1) := by decide +kernel
theorem dX12_keep_1 : decode cX12_keep 1 = .ok (.iconst 0, 1) := by decide +kernel
theorem dX12_keep_2 : decode cX12_keep 2 = .ok (.putfield 88, 3) := by decide +kernel
theorem dX12_keep_5 : decode cX12_keep 5 = .ok (.aload_n 0, 1) := by decide +kernel
theorem dX12_keep_6 : decode cX12_keep 6 = .ok (.iload_n 1, 1) := by decide +kernel
theorem dX12_keep_7 : decode cX12_keep 7 = .ok (.invokevirtual 241, 3) := by decide +kernel
theorem dX12_keep_10 : decode cX12_keep 10 = .ok (.ifCond .ne 6, 3) := by decide +kernel
theorem dX12_keep_13 : decode cX12_keep 13 = .ok (.bipush (-2), 2) := by decide +kernel
theorem dX12_keep_15 : decode cX12_keep 15 = .ok (.ireturn, 1) := by decide +kernel
theorem dX12_keep_16 : decode cX12_keep 16 = .ok (.aload_n 0, 1) := by decide +kernel
theorem dX12_keep_17 : decode cX12_keep 17 = .ok (.invokevirtual 377, 3) := by decide +kernel
theorem dX12_keep_20 : decode cX12_keep 20 = .ok (.istore_n 3, 1) := by decide +kernel
theorem dX12_keep_21 : decode cX12_keep 21 = .ok (.iload_n 2, 1) := by decide +kernel
theorem dX12_keep_22 : decode cX12_keep 22 = .ok (.bipush 10, 2) := by decide +kernel
theorem dX12_keep_24 : decode cX12_keep 24 = .ok (.if_icmp .lt 34, 3) := by decide +kernel
theorem dX12_keep_27 : decode cX12_keep 27 = .ok (.iload_n 2, 1) := by decide +kernel
theorem dX12_keep_28 : decode cX12_keep 28 = .ok (.bipush 109, 2) := by decide +kernel
theorem dX12_keep_30 : decode cX12_keep 30 = .ok (.if_icmp .le 8, 3) := by decide +kernel
theorem dX12_keep_33 : decode cX12_keep 33 = .ok (.bipush (-2), 2) := by decide +kernel
theorem dX12_keep_35 : decode cX12_keep 35 = .ok (.goto 22, 3) := by decide +kernel
theorem dX12_keep_38 : decode cX12_keep 38 = .ok (.aload_n 0, 1) := by decide +kernel
theorem dX12_keep_39 : decode cX12_keep 39 = .ok (.getfield 232, 3) := by decide +kernel
theorem dX12_keep_42 : decode cX12_keep 42 = .ok (.ifCond .ne 7, 3) := by decide +kernel
theorem dX12_keep_45 : decode cX12_keep 45 = .ok (.iconst (-1), 1) := by decide +kernel
theorem dX12_keep_46 : decode cX12_keep 46 = .ok (.goto 11, 3) := by decide +kernel
theorem dX12_keep_49 : decode cX12_keep 49 = .ok (.aload_n 0, 1) := by decide +kernel
theorem dX12_keep_50 : decode cX12_keep 50 = .ok (.iload_n 2, 1) := by decide +kernel
theorem dX12_keep_51 : decode cX12_keep 51 = .ok (.bipush 10, 2) := by decide +kernel
theorem dX12_keep_53 : decode cX12_keep 53 = .ok (.isub, 1) := by decide +kernel
theorem dX12_keep_54 : decode cX12_keep 54 = .ok (.invokevirtual 380, 3) := by decide +kernel
theorem dX12_keep_57 : decode cX12_keep 57 = .ok (.ireturn, 1) := by decide +kernel
theorem dX12_keep_58 : decode cX12_keep 58 = .ok (.iload_n 2, 1) := by decide +kernel
theorem dX12_keep_59 : decode cX12_keep 59 = .ok (.tableswitch 96 0 5 #[37, 47, 62, 62, 62, 83], 37) := by decide +kernel
theorem dX12_keep_96 : decode cX12_keep 96 = .ok (.iload_n 3, 1) := by decide +kernel
theorem dX12_keep_97 : decode cX12_keep 97 = .ok (.ifCond .eq 7, 3) := by decide +kernel
theorem dX12_keep_100 : decode cX12_keep 100 = .ok (.iconst 1, 1) := by decide +kernel
theorem dX12_keep_101 : decode cX12_keep 101 = .ok (.goto 4, 3) := by decide +kernel
theorem dX12_keep_104 : decode cX12_keep 104 = .ok (.iconst 0, 1) := by decide +kernel
theorem dX12_keep_105 : decode cX12_keep 105 = .ok (.ireturn, 1) := by decide +kernel
theorem dX12_keep_106 : decode cX12_keep 106 = .ok (.iload_n 3, 1) := by decide +kernel
theorem dX12_keep_107 : decode cX12_keep 107 = .ok (.ifCond .eq 7, 3) := by decide +kernel
theorem dX12_keep_110 : decode cX12_keep 110 = .ok (.iconst (-1), 1) := by decide +kernel
theorem dX12_keep_111 : decode cX12_keep 111 = .ok (.goto 9, 3) := by decide +kernel
theorem dX12_keep_114 : decode cX12_keep 114 = .ok (.aload_n 0, 1) := by decide +kernel
theorem dX12_keep_115 : decode cX12_keep 115 = .ok (.getfield 63, 3) := by decide +kernel
theorem dX12_keep_118 : decode cX12_keep 118 = .ok (.iconst 0, 1) := by decide +kernel
theorem dX12_keep_119 : decode cX12_keep 119 = .ok (.iaload, 1) := by decide +kernel
theorem dX12_keep_120 : decode cX12_keep 120 = .ok (.ireturn, 1) := by decide +kernel
theorem dX12_keep_121 : decode cX12_keep 121 = .ok (.iload_n 3, 1) := by decide +kernel
theorem dX12_keep_122 : decode cX12_keep 122 = .ok (.ifCond .eq 18, 3) := by decide +kernel
theorem dX12_keep_125 : decode cX12_keep 125 = .ok (.aload_n 0, 1) := by decide +kernel
theorem dX12_keep_126 : decode cX12_keep 126 = .ok (.getfield 232, 3) := by decide +kernel
theorem dX12_keep_129 : decode cX12_keep 129 = .ok (.ifCond .le 11, 3) := by decide +kernel
theorem dX12_keep_132 : decode cX12_keep 132 = .ok (.aload_n 0, 1) := by decide +kernel
theorem dX12_keep_133 : decode cX12_keep 133 = .ok (.iload_n 2, 1) := by decide +kernel
theorem dX12_keep_134 : decode cX12_keep 134 = .ok (.invokevirtual 383, 3) := by decide +kernel
theorem dX12_keep_137 : decode cX12_keep 137 = .ok (.goto 4, 3) := by decide +kernel
theorem dX12_keep_140 : decode cX12_keep 140 = .ok (.iconst (-1), 1) := by decide +kernel
theorem dX12_keep_141 : decode cX12_keep 141 = .ok (.ireturn, 1) := by decide +kernel
theorem dX12_keep_142 : decode cX12_keep 142 = .ok (.iload_n 3, 1) := by decide +kernel
theorem dX12_keep_143 : decode cX12_keep 143 = .ok (.ifCond .eq 7, 3) := by decide +kernel
theorem dX12_keep_146 : decode cX12_keep 146 = .ok (.iconst (-1), 1) := by decide +kernel
theorem dX12_keep_147 : decode cX12_keep 147 = .ok (.goto 7, 3) := by decide +kernel
theorem dX12_keep_150 : decode cX12_keep 150 = .ok (.aload_n 0, 1) := by decide +kernel
theorem dX12_keep_151 : decode cX12_keep 151 = .ok (.invokevirtual 386, 3) := by decide +kernel
theorem dX12_keep_154 : decode cX12_keep 154 = .ok (.ireturn, 1) := by decide +kernel
theorem dX12_keep_155 : decode cX12_keep 155 = .ok (.bipush (-2), 2) := by decide +kernel
theorem dX12_keep_157 : decode cX12_keep 157 = .ok (.ireturn, 1) := by decide +kernel
theorem dX12_speeds_0 : decode cX12_speeds 0 = .ok (.iconst 1, 1) := by decide +kernel
theorem dX12_speeds_1 : decode cX12_speeds 1 = .ok (.istore_n 1, 1) := by decide +kernel
theorem dX12_speeds_2 : decode cX12_speeds 2 = .ok (.iload_n 1, 1) := by decide +kernel
theorem dX12_speeds_3 : decode cX12_speeds 3 = .ok (.bipush 10, 2) := by decide +kernel
theorem dX12_speeds_5 : decode cX12_speeds 5 = .ok (.if_icmp .ge 23, 3) := by decide +kernel
theorem dX12_speeds_8 : decode cX12_speeds 8 = .ok (.aload_n 0, 1) := by decide +kernel
theorem dX12_speeds_9 : decode cX12_speeds 9 = .ok (.iload_n 1, 1) := by decide +kernel
theorem dX12_speeds_10 : decode cX12_speeds 10 = .ok (.putfield 226, 3) := by decide +kernel
theorem dX12_speeds_13 : decode cX12_speeds 13 = .ok (.aload_n 0, 1) := by decide +kernel
theorem dX12_speeds_14 : decode cX12_speeds 14 = .ok (.invokevirtual 377, 3) := by decide +kernel
theorem dX12_speeds_17 : decode cX12_speeds 17 = .ok (.ifCond .eq 5, 3) := by decide +kernel
theorem dX12_speeds_20 : decode cX12_speeds 20 = .ok (.iload_n 1, 1) := by decide +kernel
theorem dX12_speeds_21 : decode cX12_speeds 21 = .ok (.ireturn, 1) := by decide +kernel
theorem dX12_speeds_22 : decode cX12_speeds 22 = .ok (.iinc 1 1, 3) := by decide +kernel
theorem dX12_speeds_25 : decode cX12_speeds 25 = .ok (.goto (-23), 3) := by decide +kernel
theorem dX12_speeds_28 : decode cX12_speeds 28 = .ok (.iconst (-1), 1) := by decide +kernel
theorem dX12_speeds_29 : decode cX12_speeds 29 = .ok (.ireturn, 1) := by decide +kernel
theorem dX12_starts_0 : decode cX12_starts 0 = .ok (.iconst 0, 1) := by decide +kernel
theorem dX12_starts_1 : decode cX12_starts 1 = .ok (.istore_n 1, 1) := by decide +kernel
theorem dX12_starts_2 : decode cX12_starts 2 = .ok (.iconst 0, 1) := by decide +kernel
theorem dX12_starts_3 : decode cX12_starts 3 = .ok (.istore_n 2, 1) := by decide +kernel
theorem dX12_starts_4 : decode cX12_starts 4 = .ok (.iload_n 2, 1) := by decide +kernel
theorem dX12_starts_5 : decode cX12_starts 5 = .ok (.bipush 10, 2) := by decide +kernel
theorem dX12_starts_7 : decode cX12_starts 7 = .ok (.if_icmp .ge 31, 3) := by decide +kernel
theorem dX12_starts_10 : decode cX12_starts 10 = .ok (.aload_n 0, 1) := by decide +kernel
theorem dX12_starts_11 : decode cX12_starts 11 = .ok (.iload_n 2, 1) := by decide +kernel
theorem dX12_starts_12 : decode cX12_starts 12 = .ok (.putfield 229, 3) := by decide +kernel
theorem dX12_starts_15 : decode cX12_starts 15 = .ok (.iload_n 1, 1) := by decide +kernel
theorem dX12_starts_16 : decode cX12_starts 16 = .ok (.aload_n 0, 1) := by decide +kernel
theorem dX12_starts_17 : decode cX12_starts 17 = .ok (.invokevirtual 377, 3) := by decide +kernel
theorem dX12_starts_20 : decode cX12_starts 20 = .ok (.ifCond .eq 9, 3) := by decide +kernel
theorem dX12_starts_23 : decode cX12_starts 23 = .ok (.iconst 1, 1) := by decide +kernel
theorem dX12_starts_24 : decode cX12_starts 24 = .ok (.iload_n 2, 1) := by decide +kernel
theorem dX12_starts_25 : decode cX12_starts 25 = .ok (.ishl, 1) := by decide +kernel
theorem dX12_starts_26 : decode cX12_starts 26 = .ok (.goto 4, 3) := by decide +kernel
theorem dX12_starts_29 : decode cX12_starts 29 = .ok (.iconst 0, 1) := by decide +kernel
theorem dX12_starts_30 : decode cX12_starts 30 = .ok (.ior, 1) := by decide +kernel
theorem dX12_starts_31 : decode cX12_starts 31 = .ok (.istore_n 1, 1) := by decide +kernel
theorem dX12_starts_32 : decode cX12_starts 32 = .ok (.iinc 2 1, 3) := by decide +kernel
theorem dX12_starts_35 : decode cX12_starts 35 = .ok (.goto (-31), 3) := by decide +kernel
theorem dX12_starts_38 : decode cX12_starts 38 = .ok (.iload_n 1, 1) := by decide +kernel
theorem dX12_starts_39 : decode cX12_starts 39 = .ok (.ireturn, 1) := by decide +kernel
theorem dX12_leave_0 : decode cX12_leave 0 = .ok (.iconst 0, 1) := by decide +kernel
theorem dX12_leave_1 : decode cX12_leave 1 = .ok (.istore_n 1, 1) := by decide +kernel
theorem dX12_leave_2 : decode cX12_leave 2 = .ok (.iconst 1, 1) := by decide +kernel
theorem dX12_leave_3 : decode cX12_leave 3 = .ok (.istore_n 2, 1) := by decide +kernel
theorem dX12_leave_4 : decode cX12_leave 4 = .ok (.iload_n 2, 1) := by decide +kernel
theorem dX12_leave_5 : decode cX12_leave 5 = .ok (.iconst 1, 1) := by decide +kernel
theorem dX12_leave_6 : decode cX12_leave 6 = .ok (.aload_n 0, 1) := by decide +kernel
theorem dX12_leave_7 : decode cX12_leave 7 = .ok (.getfield 232, 3) := by decide +kernel
theorem dX12_leave_10 : decode cX12_leave 10 = .ok (.ishl, 1) := by decide +kernel
theorem dX12_leave_11 : decode cX12_leave 11 = .ok (.if_icmp .ge 38, 3) := by decide +kernel
theorem dX12_leave_14 : decode cX12_leave 14 = .ok (.aload_n 0, 1) := by decide +kernel
theorem dX12_leave_15 : decode cX12_leave 15 = .ok (.iload_n 2, 1) := by decide +kernel
theorem dX12_leave_16 : decode cX12_leave 16 = .ok (.putfield 235, 3) := by decide +kernel
theorem dX12_leave_19 : decode cX12_leave 19 = .ok (.iload_n 2, 1) := by decide +kernel
theorem dX12_leave_20 : decode cX12_leave 20 = .ok (.invokestatic 389, 3) := by decide +kernel
theorem dX12_leave_23 : decode cX12_leave 23 = .ok (.iload_n 1, 1) := by decide +kernel
theorem dX12_leave_24 : decode cX12_leave 24 = .ok (.invokestatic 389, 3) := by decide +kernel
theorem dX12_leave_27 : decode cX12_leave 27 = .ok (.if_icmp .le 14, 3) := by decide +kernel
theorem dX12_leave_30 : decode cX12_leave 30 = .ok (.aload_n 0, 1) := by decide +kernel
theorem dX12_leave_31 : decode cX12_leave 31 = .ok (.invokevirtual 377, 3) := by decide +kernel
theorem dX12_leave_34 : decode cX12_leave 34 = .ok (.ifCond .eq 7, 3) := by decide +kernel
theorem dX12_leave_37 : decode cX12_leave 37 = .ok (.iload_n 2, 1) := by decide +kernel
theorem dX12_leave_38 : decode cX12_leave 38 = .ok (.goto 4, 3) := by decide +kernel
theorem dX12_leave_41 : decode cX12_leave 41 = .ok (.iload_n 1, 1) := by decide +kernel
theorem dX12_leave_42 : decode cX12_leave 42 = .ok (.istore_n 1, 1) := by decide +kernel
theorem dX12_leave_43 : decode cX12_leave 43 = .ok (.iinc 2 1, 3) := by decide +kernel
theorem dX12_leave_46 : decode cX12_leave 46 = .ok (.goto (-42), 3) := by decide +kernel
theorem dX12_leave_49 : decode cX12_leave 49 = .ok (.iload_n 1, 1) := by decide +kernel
theorem dX12_leave_50 : decode cX12_leave 50 = .ok (.ireturn, 1) := by decide +kernel
theorem dX12_spare_0 : decode cX12_spare 0 = .ok (.iconst 0, 1) := by decide +kernel
theorem dX12_spare_1 : decode cX12_spare 1 = .ok (.istore_n 1, 1) := by decide +kernel
theorem dX12_spare_2 : decode cX12_spare 2 = .ok (.iconst 0, 1) := by decide +kernel
theorem dX12_spare_3 : decode cX12_spare 3 = .ok (.istore_n 2, 1) := by decide +kernel
theorem dX12_spare_4 : decode cX12_spare 4 = .ok (.iload_n 2, 1) := by decide +kernel
theorem dX12_spare_5 : decode cX12_spare 5 = .ok (.aload_n 0, 1) := by decide +kernel
theorem dX12_spare_6 : decode cX12_spare 6 = .ok (.getfield 232, 3) := by decide +kernel
theorem dX12_spare_9 : decode cX12_spare 9 = .ok (.if_icmp .ge 44, 3) := by decide +kernel
theorem dX12_spare_12 : decode cX12_spare 12 = .ok (.aload_n 0, 1) := by decide +kernel
theorem dX12_spare_13 : decode cX12_spare 13 = .ok (.iconst 1, 1) := by decide +kernel
theorem dX12_spare_14 : decode cX12_spare 14 = .ok (.aload_n 0, 1) := by decide +kernel
theorem dX12_spare_15 : decode cX12_spare 15 = .ok (.getfield 232, 3) := by decide +kernel
theorem dX12_spare_18 : decode cX12_spare 18 = .ok (.ishl, 1) := by decide +kernel
theorem dX12_spare_19 : decode cX12_spare 19 = .ok (.iconst 1, 1) := by decide +kernel
theorem dX12_spare_20 : decode cX12_spare 20 = .ok (.isub, 1) := by decide +kernel
theorem dX12_spare_21 : decode cX12_spare 21 = .ok (.iconst 1, 1) := by decide +kernel
theorem dX12_spare_22 : decode cX12_spare 22 = .ok (.iload_n 2, 1) := by decide +kernel
theorem dX12_spare_23 : decode cX12_spare 23 = .ok (.ishl, 1) := by decide +kernel
theorem dX12_spare_24 : decode cX12_spare 24 = .ok (.iconst (-1), 1) := by decide +kernel
theorem dX12_spare_25 : decode cX12_spare 25 = .ok (.ixor, 1) := by decide +kernel
theorem dX12_spare_26 : decode cX12_spare 26 = .ok (.iand, 1) := by decide +kernel
theorem dX12_spare_27 : decode cX12_spare 27 = .ok (.putfield 235, 3) := by decide +kernel
theorem dX12_spare_30 : decode cX12_spare 30 = .ok (.iload_n 1, 1) := by decide +kernel
theorem dX12_spare_31 : decode cX12_spare 31 = .ok (.aload_n 0, 1) := by decide +kernel
theorem dX12_spare_32 : decode cX12_spare 32 = .ok (.invokevirtual 377, 3) := by decide +kernel
theorem dX12_spare_35 : decode cX12_spare 35 = .ok (.ifCond .eq 9, 3) := by decide +kernel
theorem dX12_spare_38 : decode cX12_spare 38 = .ok (.iconst 1, 1) := by decide +kernel
theorem dX12_spare_39 : decode cX12_spare 39 = .ok (.iload_n 2, 1) := by decide +kernel
theorem dX12_spare_40 : decode cX12_spare 40 = .ok (.ishl, 1) := by decide +kernel
theorem dX12_spare_41 : decode cX12_spare 41 = .ok (.goto 4, 3) := by decide +kernel
theorem dX12_spare_44 : decode cX12_spare 44 = .ok (.iconst 0, 1) := by decide +kernel
theorem dX12_spare_45 : decode cX12_spare 45 = .ok (.ior, 1) := by decide +kernel
theorem dX12_spare_46 : decode cX12_spare 46 = .ok (.istore_n 1, 1) := by decide +kernel
theorem dX12_spare_47 : decode cX12_spare 47 = .ok (.iinc 2 1, 3) := by decide +kernel
theorem dX12_spare_50 : decode cX12_spare 50 = .ok (.goto (-46), 3) := by decide +kernel
theorem dX12_spare_53 : decode cX12_spare 53 = .ok (.iload_n 1, 1) := by decide +kernel
theorem dX12_spare_54 : decode cX12_spare 54 = .ok (.ireturn, 1) := by decide +kernel
theorem dX12_reachedStands_0 : decode cX12_reachedStands 0 = .ok (.aload_n 0, 1) := by decide +kernel
theorem dX12_reachedStands_1 : decode cX12_reachedStands 1 = .ok (.invokevirtual 377, 3) := by decide +kernel
theorem dX12_reachedStands_4 : decode cX12_reachedStands 4 = .ok (.pop, 1) := by decide +kernel
theorem dX12_reachedStands_5 : decode cX12_reachedStands 5 = .ok (.iconst 0, 1) := by decide +kernel
theorem dX12_reachedStands_6 : decode cX12_reachedStands 6 = .ok (.istore_n 2, 1) := by decide +kernel
theorem dX12_reachedStands_7 : decode cX12_reachedStands 7 = .ok (.iconst 0, 1) := by decide +kernel
theorem dX12_reachedStands_8 : decode cX12_reachedStands 8 = .ok (.istore_n 3, 1) := by decide +kernel
theorem dX12_reachedStands_9 : decode cX12_reachedStands 9 = .ok (.iload_n 3, 1) := by decide +kernel
theorem dX12_reachedStands_10 : decode cX12_reachedStands 10 = .ok (.aload_n 0, 1) := by decide +kernel
theorem dX12_reachedStands_11 : decode cX12_reachedStands 11 = .ok (.getfield 340, 3) := by decide +kernel
theorem dX12_reachedStands_14 : decode cX12_reachedStands 14 = .ok (.if_icmp .ge 38, 3) := by decide +kernel
theorem dX12_reachedStands_17 : decode cX12_reachedStands 17 = .ok (.iload_n 2, 1) := by decide +kernel
theorem dX12_reachedStands_18 : decode cX12_reachedStands 18 = .ok (.iload_n 1, 1) := by decide +kernel
theorem dX12_reachedStands_19 : decode cX12_reachedStands 19 = .ok (.ifCond .eq 20, 3) := by decide +kernel
theorem dX12_reachedStands_22 : decode cX12_reachedStands 22 = .ok (.aload_n 0, 1) := by decide +kernel
theorem dX12_reachedStands_23 : decode cX12_reachedStands 23 = .ok (.getfield 235, 3) := by decide +kernel
theorem dX12_reachedStands_26 : decode cX12_reachedStands 26 = .ok (.ifCond .eq 13, 3) := by decide +kernel
theorem dX12_reachedStands_29 : decode cX12_reachedStands 29 = .ok (.aload_n 0, 1) := by decide +kernel
theorem dX12_reachedStands_30 : decode cX12_reachedStands 30 = .ok (.getfield 63, 3) := by decide +kernel
theorem dX12_reachedStands_33 : decode cX12_reachedStands 33 = .ok (.iload_n 3, 1) := by decide +kernel
theorem dX12_reachedStands_34 : decode cX12_reachedStands 34 = .ok (.iaload, 1) := by decide +kernel
theorem dX12_reachedStands_35 : decode cX12_reachedStands 35 = .ok (.iconst (-1), 1) := by decide +kernel
theorem dX12_reachedStands_36 : decode cX12_reachedStands 36 = .ok (.if_icmp .ne 7, 3) := by decide +kernel
theorem dX12_reachedStands_39 : decode cX12_reachedStands 39 = .ok (.iconst 1, 1) := by decide +kernel
theorem dX12_reachedStands_40 : decode cX12_reachedStands 40 = .ok (.goto 4, 3) := by decide +kernel
theorem dX12_reachedStands_43 : decode cX12_reachedStands 43 = .ok (.iconst 0, 1) := by decide +kernel
theorem dX12_reachedStands_44 : decode cX12_reachedStands 44 = .ok (.iadd, 1) := by decide +kernel
theorem dX12_reachedStands_45 : decode cX12_reachedStands 45 = .ok (.istore_n 2, 1) := by decide +kernel
theorem dX12_reachedStands_46 : decode cX12_reachedStands 46 = .ok (.iinc 3 1, 3) := by decide +kernel
theorem dX12_reachedStands_49 : decode cX12_reachedStands 49 = .ok (.goto (-40), 3) := by decide +kernel
theorem dX12_reachedStands_52 : decode cX12_reachedStands 52 = .ok (.iload_n 2, 1) := by decide +kernel
theorem dX12_reachedStands_53 : decode cX12_reachedStands 53 = .ok (.ireturn, 1) := by decide +kernel
theorem dX12_needOf_0 : decode cX12_needOf 0 = .ok (.iconst 1, 1) := by decide +kernel
theorem dX12_needOf_1 : decode cX12_needOf 1 = .ok (.istore_n 2, 1) := by decide +kernel
theorem dX12_needOf_2 : decode cX12_needOf 2 = .ok (.iload_n 2, 1) := by decide +kernel
theorem dX12_needOf_3 : decode cX12_needOf 3 = .ok (.bipush 6, 2) := by decide +kernel
theorem dX12_needOf_5 : decode cX12_needOf 5 = .ok (.if_icmp .gt 43, 3) := by decide +kernel
theorem dX12_needOf_8 : decode cX12_needOf 8 = .ok (.aload_n 0, 1) := by decide +kernel
theorem dX12_needOf_9 : decode cX12_needOf 9 = .ok (.getfield 44, 3) := by decide +kernel
theorem dX12_needOf_12 : decode cX12_needOf 12 = .ok (.iload_n 1, 1) := by decide +kernel
theorem dX12_needOf_13 : decode cX12_needOf 13 = .ok (.iload_n 2, 1) := by decide +kernel
theorem dX12_needOf_14 : decode cX12_needOf 14 = .ok (.iastore, 1) := by decide +kernel
theorem dX12_needOf_15 : decode cX12_needOf 15 = .ok (.aload_n 0, 1) := by decide +kernel
theorem dX12_needOf_16 : decode cX12_needOf 16 = .ok (.getfield 47, 3) := by decide +kernel
theorem dX12_needOf_19 : decode cX12_needOf 19 = .ok (.iload_n 1, 1) := by decide +kernel
theorem dX12_needOf_20 : decode cX12_needOf 20 = .ok (.aload_n 0, 1) := by decide +kernel
theorem dX12_needOf_21 : decode cX12_needOf 21 = .ok (.bipush 13, 2) := by decide +kernel
theorem dX12_needOf_23 : decode cX12_needOf 23 = .ok (.iload_n 1, 1) := by decide +kernel
theorem dX12_needOf_24 : decode cX12_needOf 24 = .ok (.iadd, 1) := by decide +kernel
theorem dX12_needOf_25 : decode cX12_needOf 25 = .ok (.invokevirtual 222, 3) := by decide +kernel
theorem dX12_needOf_28 : decode cX12_needOf 28 = .ok (.iload_n 2, 1) := by decide +kernel
theorem dX12_needOf_29 : decode cX12_needOf 29 = .ok (.invokestatic 162, 3) := by decide +kernel
theorem dX12_needOf_32 : decode cX12_needOf 32 = .ok (.iastore, 1) := by decide +kernel
theorem dX12_needOf_33 : decode cX12_needOf 33 = .ok (.aload_n 0, 1) := by decide +kernel
theorem dX12_needOf_34 : decode cX12_needOf 34 = .ok (.invokevirtual 377, 3) := by decide +kernel
theorem dX12_needOf_37 : decode cX12_needOf 37 = .ok (.ifCond .eq 5, 3) := by decide +kernel
theorem dX12_needOf_40 : decode cX12_needOf 40 = .ok (.iload_n 2, 1) := by decide +kernel
theorem dX12_needOf_41 : decode cX12_needOf 41 = .ok (.ireturn, 1) := by decide +kernel
theorem dX12_needOf_42 : decode cX12_needOf 42 = .ok (.iinc 2 1, 3) := by decide +kernel
theorem dX12_needOf_45 : decode cX12_needOf 45 = .ok (.goto (-43), 3) := by decide +kernel
theorem dX12_needOf_48 : decode cX12_needOf 48 = .ok (.iconst (-1), 1) := by decide +kernel
theorem dX12_needOf_49 : decode cX12_needOf 49 = .ok (.ireturn, 1) := by decide +kernel
theorem dX12_movesOf_0 : decode cX12_movesOf 0 = .ok (.iconst 0, 1) := by decide +kernel
theorem dX12_movesOf_1 : decode cX12_movesOf 1 = .ok (.istore_n 2, 1) := by decide +kernel
theorem dX12_movesOf_2 : decode cX12_movesOf 2 = .ok (.iconst 0, 1) := by decide +kernel
theorem dX12_movesOf_3 : decode cX12_movesOf 3 = .ok (.istore_n 3, 1) := by decide +kernel
theorem dX12_movesOf_4 : decode cX12_movesOf 4 = .ok (.iload_n 3, 1) := by decide +kernel
theorem dX12_movesOf_5 : decode cX12_movesOf 5 = .ok (.bipush 10, 2) := by decide +kernel
theorem dX12_movesOf_7 : decode cX12_movesOf 7 = .ok (.if_icmp .ge 33, 3) := by decide +kernel
theorem dX12_movesOf_10 : decode cX12_movesOf 10 = .ok (.aload_n 0, 1) := by decide +kernel
theorem dX12_movesOf_11 : decode cX12_movesOf 11 = .ok (.getfield 41, 3) := by decide +kernel
theorem dX12_movesOf_14 : decode cX12_movesOf 14 = .ok (.iload_n 1, 1) := by decide +kernel
theorem dX12_movesOf_15 : decode cX12_movesOf 15 = .ok (.iload_n 3, 1) := by decide +kernel
theorem dX12_movesOf_16 : decode cX12_movesOf 16 = .ok (.iastore, 1) := by decide +kernel
theorem dX12_movesOf_17 : decode cX12_movesOf 17 = .ok (.iload_n 2, 1) := by decide +kernel
theorem dX12_movesOf_18 : decode cX12_movesOf 18 = .ok (.aload_n 0, 1) := by decide +kernel
theorem dX12_movesOf_19 : decode cX12_movesOf 19 = .ok (.invokevirtual 377, 3) := by decide +kernel
theorem dX12_movesOf_22 : decode cX12_movesOf 22 = .ok (.ifCond .eq 9, 3) := by decide +kernel
theorem dX12_movesOf_25 : decode cX12_movesOf 25 = .ok (.iconst 1, 1) := by decide +kernel
theorem dX12_movesOf_26 : decode cX12_movesOf 26 = .ok (.iload_n 3, 1) := by decide +kernel
theorem dX12_movesOf_27 : decode cX12_movesOf 27 = .ok (.ishl, 1) := by decide +kernel
theorem dX12_movesOf_28 : decode cX12_movesOf 28 = .ok (.goto 4, 3) := by decide +kernel
theorem dX12_movesOf_31 : decode cX12_movesOf 31 = .ok (.iconst 0, 1) := by decide +kernel
theorem dX12_movesOf_32 : decode cX12_movesOf 32 = .ok (.ior, 1) := by decide +kernel
theorem dX12_movesOf_33 : decode cX12_movesOf 33 = .ok (.istore_n 2, 1) := by decide +kernel
theorem dX12_movesOf_34 : decode cX12_movesOf 34 = .ok (.iinc 3 1, 3) := by decide +kernel
theorem dX12_movesOf_37 : decode cX12_movesOf 37 = .ok (.goto (-33), 3) := by decide +kernel
theorem dX12_movesOf_40 : decode cX12_movesOf 40 = .ok (.iload_n 2, 1) := by decide +kernel
theorem dX12_movesOf_41 : decode cX12_movesOf 41 = .ok (.ireturn, 1) := by decide +kernel
theorem dX12_need_0 : decode cX12_need 0 = .ok (.aload_n 0, 1) := by decide +kernel
theorem dX12_need_1 : decode cX12_need 1 = .ok (.iconst 0, 1) := by decide +kernel
theorem dX12_need_2 : decode cX12_need 2 = .ok (.putfield 88, 3) := by decide +kernel
theorem dX12_need_5 : decode cX12_need 5 = .ok (.aload_n 0, 1) := by decide +kernel
theorem dX12_need_6 : decode cX12_need 6 = .ok (.iload_n 1, 1) := by decide +kernel
theorem dX12_need_7 : decode cX12_need 7 = .ok (.invokevirtual 241, 3) := by decide +kernel
theorem dX12_need_10 : decode cX12_need 10 = .ok (.ifCond .ne 6, 3) := by decide +kernel
theorem dX12_need_13 : decode cX12_need 13 = .ok (.bipush (-2), 2) := by decide +kernel
theorem dX12_need_15 : decode cX12_need 15 = .ok (.ireturn, 1) := by decide +kernel
theorem dX12_need_16 : decode cX12_need 16 = .ok (.iload_n 2, 1) := by decide +kernel
theorem dX12_need_17 : decode cX12_need 17 = .ok (.bipush 10, 2) := by decide +kernel
theorem dX12_need_19 : decode cX12_need 19 = .ok (.if_icmp .lt 51, 3) := by decide +kernel
theorem dX12_need_22 : decode cX12_need 22 = .ok (.iload_n 2, 1) := by decide +kernel
theorem dX12_need_23 : decode cX12_need 23 = .ok (.bipush 30, 2) := by decide +kernel
theorem dX12_need_25 : decode cX12_need 25 = .ok (.if_icmp .ge 42, 3) := by decide +kernel
theorem dX12_need_28 : decode cX12_need 28 = .ok (.aload_n 0, 1) := by decide +kernel
theorem dX12_need_29 : decode cX12_need 29 = .ok (.iload_n 2, 1) := by decide +kernel
theorem dX12_need_30 : decode cX12_need 30 = .ok (.bipush 10, 2) := by decide +kernel
theorem dX12_need_32 : decode cX12_need 32 = .ok (.irem, 1) := by decide +kernel
theorem dX12_need_33 : decode cX12_need 33 = .ok (.invokevirtual 244, 3) := by decide +kernel
theorem dX12_need_36 : decode cX12_need 36 = .ok (.ifCond .eq 31, 3) := by decide +kernel
theorem dX12_need_39 : decode cX12_need 39 = .ok (.iload_n 2, 1) := by decide +kernel
theorem dX12_need_40 : decode cX12_need 40 = .ok (.bipush 20, 2) := by decide +kernel
theorem dX12_need_42 : decode cX12_need 42 = .ok (.if_icmp .ge 14, 3) := by decide +kernel
theorem dX12_need_45 : decode cX12_need 45 = .ok (.aload_n 0, 1) := by decide +kernel
theorem dX12_need_46 : decode cX12_need 46 = .ok (.iload_n 2, 1) := by decide +kernel
theorem dX12_need_47 : decode cX12_need 47 = .ok (.bipush 10, 2) := by decide +kernel
theorem dX12_need_49 : decode cX12_need 49 = .ok (.isub, 1) := by decide +kernel
theorem dX12_need_50 : decode cX12_need 50 = .ok (.invokevirtual 392, 3) := by decide +kernel
theorem dX12_need_53 : decode cX12_need 53 = .ok (.goto 16, 3) := by decide +kernel
theorem dX12_need_56 : decode cX12_need 56 = .ok (.aload_n 0, 1) := by decide +kernel
theorem dX12_need_57 : decode cX12_need 57 = .ok (.iload_n 2, 1) := by decide +kernel
theorem dX12_need_58 : decode cX12_need 58 = .ok (.bipush 20, 2) := by decide +kernel
theorem dX12_need_60 : decode cX12_need 60 = .ok (.isub, 1) := by decide +kernel
theorem dX12_need_61 : decode cX12_need 61 = .ok (.invokevirtual 395, 3) := by decide +kernel
theorem dX12_need_64 : decode cX12_need 64 = .ok (.goto 5, 3) := by decide +kernel
theorem dX12_need_67 : decode cX12_need 67 = .ok (.bipush (-2), 2) := by decide +kernel
theorem dX12_need_69 : decode cX12_need 69 = .ok (.ireturn, 1) := by decide +kernel
theorem dX12_need_70 : decode cX12_need 70 = .ok (.iload_n 2, 1) := by decide +kernel
theorem dX12_need_71 : decode cX12_need 71 = .ok (.tableswitch 85 0 6 #[41, 46, 51, 59, 64, 69, 69], 41) := by decide +kernel
theorem dX12_need_112 : decode cX12_need 112 = .ok (.aload_n 0, 1) := by decide +kernel
theorem dX12_need_113 : decode cX12_need 113 = .ok (.invokevirtual 398, 3) := by decide +kernel
theorem dX12_need_116 : decode cX12_need 116 = .ok (.ireturn, 1) := by decide +kernel
theorem dX12_need_117 : decode cX12_need 117 = .ok (.aload_n 0, 1) := by decide +kernel
theorem dX12_need_118 : decode cX12_need 118 = .ok (.invokevirtual 401, 3) := by decide +kernel
theorem dX12_need_121 : decode cX12_need 121 = .ok (.ireturn, 1) := by decide +kernel
theorem dX12_need_122 : decode cX12_need 122 = .ok (.aload_n 0, 1) := by decide +kernel
theorem dX12_need_123 : decode cX12_need 123 = .ok (.invokevirtual 404, 3) := by decide +kernel
theorem dX12_need_126 : decode cX12_need 126 = .ok (.invokestatic 389, 3) := by decide +kernel
theorem dX12_need_129 : decode cX12_need 129 = .ok (.ireturn, 1) := by decide +kernel
theorem dX12_need_130 : decode cX12_need 130 = .ok (.aload_n 0, 1) := by decide +kernel
theorem dX12_need_131 : decode cX12_need 131 = .ok (.invokevirtual 404, 3) := by decide +kernel
theorem dX12_need_134 : decode cX12_need 134 = .ok (.ireturn, 1) := by decide +kernel
theorem dX12_need_135 : decode cX12_need 135 = .ok (.aload_n 0, 1) := by decide +kernel
theorem dX12_need_136 : decode cX12_need 136 = .ok (.invokevirtual 407, 3) := by decide +kernel
theorem dX12_need_139 : decode cX12_need 139 = .ok (.ireturn, 1) := by decide +kernel
theorem dX12_need_140 : decode cX12_need 140 = .ok (.aload_n 0, 1) := by decide +kernel
theorem dX12_need_141 : decode cX12_need 141 = .ok (.iload_n 2, 1) := by decide +kernel
theorem dX12_need_142 : decode cX12_need 142 = .ok (.bipush 6, 2) := by decide +kernel
theorem dX12_need_144 : decode cX12_need 144 = .ok (.if_icmp .ne 7, 3) := by decide +kernel
theorem dX12_need_147 : decode cX12_need 147 = .ok (.iconst 1, 1) := by decide +kernel
theorem dX12_need_148 : decode cX12_need 148 = .ok (.goto 4, 3) := by decide +kernel
theorem dX12_need_151 : decode cX12_need 151 = .ok (.iconst 0, 1) := by decide +kernel
theorem dX12_need_152 : decode cX12_need 152 = .ok (.invokevirtual 410, 3) := by decide +kernel
theorem dX12_need_155 : decode cX12_need 155 = .ok (.ireturn, 1) := by decide +kernel
theorem dX12_need_156 : decode cX12_need 156 = .ok (.bipush (-2), 2) := by decide +kernel
theorem dX12_need_158 : decode cX12_need 158 = .ok (.ireturn, 1) := by decide +kernel
theorem dX12_behind_0 : decode cX12_behind 0 = .ok (.aload_n 0, 1) := by decide +kernel
theorem dX12_behind_1 : decode cX12_behind 1 = .ok (.iconst 0, 1) := by decide +kernel
theorem dX12_behind_2 : decode cX12_behind 2 = .ok (.putfield 88, 3) := by decide +kernel
theorem dX12_behind_5 : decode cX12_behind 5 = .ok (.aload_n 0, 1) := by decide +kernel
theorem dX12_behind_6 : decode cX12_behind 6 = .ok (.iload_n 1, 1) := by decide +kernel
theorem dX12_behind_7 : decode cX12_behind 7 = .ok (.invokevirtual 241, 3) := by decide +kernel
theorem dX12_behind_10 : decode cX12_behind 10 = .ok (.ifCond .eq 20, 3) := by decide +kernel
theorem dX12_behind_13 : decode cX12_behind 13 = .ok (.aload_n 0, 1) := by decide +kernel
theorem dX12_behind_14 : decode cX12_behind 14 = .ok (.iload_n 2, 1) := by decide +kernel
theorem dX12_behind_15 : decode cX12_behind 15 = .ok (.invokevirtual 244, 3) := by decide +kernel
theorem dX12_behind_18 : decode cX12_behind 18 = .ok (.ifCond .eq 12, 3) := by decide +kernel
theorem dX12_behind_21 : decode cX12_behind 21 = .ok (.iload_n 3, 1) := by decide +kernel
theorem dX12_behind_22 : decode cX12_behind 22 = .ok (.iconst 0, 1) := by decide +kernel
theorem dX12_behind_23 : decode cX12_behind 23 = .ok (.iconst 2, 1) := by decide +kernel
theorem dX12_behind_24 : decode cX12_behind 24 = .ok (.invokestatic 100, 3) := by decide +kernel
theorem dX12_behind_27 : decode cX12_behind 27 = .ok (.ifCond .ne 6, 3) := by decide +kernel
theorem dX12_behind_30 : decode cX12_behind 30 = .ok (.bipush (-2), 2) := by decide +kernel
theorem dX12_behind_32 : decode cX12_behind 32 = .ok (.ireturn, 1) := by decide +kernel
theorem dX12_behind_33 : decode cX12_behind 33 = .ok (.aload_n 0, 1) := by decide +kernel
theorem dX12_behind_34 : decode cX12_behind 34 = .ok (.invokevirtual 377, 3) := by decide +kernel
theorem dX12_behind_37 : decode cX12_behind 37 = .ok (.pop, 1) := by decide +kernel
theorem dX12_behind_38 : decode cX12_behind 38 = .ok (.aload_n 0, 1) := by decide +kernel
theorem dX12_behind_39 : decode cX12_behind 39 = .ok (.invokevirtual 343, 3) := by decide +kernel
theorem dX12_behind_42 : decode cX12_behind 42 = .ok (.aload_n 0, 1) := by decide +kernel
theorem dX12_behind_43 : decode cX12_behind 43 = .ok (.iload_n 2, 1) := by decide +kernel
theorem dX12_behind_44 : decode cX12_behind 44 = .ok (.invokevirtual 352, 3) := by decide +kernel
theorem dX12_behind_47 : decode cX12_behind 47 = .ok (.istore 4, 2) := by decide +kernel
theorem dX12_behind_49 : decode cX12_behind 49 = .ok (.iload_n 3, 1) := by decide +kernel
theorem dX12_behind_50 : decode cX12_behind 50 = .ok (.ifCond .ne 14, 3) := by decide +kernel
theorem dX12_behind_53 : decode cX12_behind 53 = .ok (.iload 4, 2) := by decide +kernel
theorem dX12_behind_55 : decode cX12_behind 55 = .ok (.ifCond .eq 7, 3) := by decide +kernel
theorem dX12_behind_58 : decode cX12_behind 58 = .ok (.iconst 1, 1) := by decide +kernel
theorem dX12_behind_59 : decode cX12_behind 59 = .ok (.goto 4, 3) := by decide +kernel
theorem dX12_behind_62 : decode cX12_behind 62 = .ok (.iconst 0, 1) := by decide +kernel
theorem dX12_behind_63 : decode cX12_behind 63 = .ok (.ireturn, 1) := by decide +kernel
theorem dX12_behind_64 : decode cX12_behind 64 = .ok (.iload 4, 2) := by decide +kernel
theorem dX12_behind_66 : decode cX12_behind 66 = .ok (.ifCond .ne 6, 3) := by decide +kernel
theorem dX12_behind_69 : decode cX12_behind 69 = .ok (.bipush (-2), 2) := by decide +kernel
theorem dX12_behind_71 : decode cX12_behind 71 = .ok (.ireturn, 1) := by decide +kernel
theorem dX12_behind_72 : decode cX12_behind 72 = .ok (.aload_n 0, 1) := by decide +kernel
theorem dX12_behind_73 : decode cX12_behind 73 = .ok (.getfield 63, 3) := by decide +kernel
theorem dX12_behind_76 : decode cX12_behind 76 = .ok (.aload_n 0, 1) := by decide +kernel
theorem dX12_behind_77 : decode cX12_behind 77 = .ok (.getfield 60, 3) := by decide +kernel
theorem dX12_behind_80 : decode cX12_behind 80 = .ok (.aload_n 0, 1) := by decide +kernel
theorem dX12_behind_81 : decode cX12_behind 81 = .ok (.iload_n 2, 1) := by decide +kernel
theorem dX12_behind_82 : decode cX12_behind 82 = .ok (.invokevirtual 355, 3) := by decide +kernel
theorem dX12_behind_85 : decode cX12_behind 85 = .ok (.iaload, 1) := by decide +kernel
theorem dX12_behind_86 : decode cX12_behind 86 = .ok (.iconst 1, 1) := by decide +kernel
theorem dX12_behind_87 : decode cX12_behind 87 = .ok (.isub, 1) := by decide +kernel
theorem dX12_behind_88 : decode cX12_behind 88 = .ok (.iaload, 1) := by decide +kernel
theorem dX12_behind_89 : decode cX12_behind 89 = .ok (.istore 5, 2) := by decide +kernel
theorem dX12_behind_91 : decode cX12_behind 91 = .ok (.iload_n 3, 1) := by decide +kernel
theorem dX12_behind_92 : decode cX12_behind 92 = .ok (.iconst 2, 1) := by decide +kernel
theorem dX12_behind_93 : decode cX12_behind 93 = .ok (.if_icmp .ne 8, 3) := by decide +kernel
theorem dX12_behind_96 : decode cX12_behind 96 = .ok (.iload 5, 2) := by decide +kernel
theorem dX12_behind_98 : decode cX12_behind 98 = .ok (.goto 14, 3) := by decide +kernel
theorem dX12_behind_101 : decode cX12_behind 101 = .ok (.iload 5, 2) := by decide +kernel
theorem dX12_behind_103 : decode cX12_behind 103 = .ok (.iconst (-1), 1) := by decide +kernel
theorem dX12_behind_104 : decode cX12_behind 104 = .ok (.if_icmp .ne 7, 3) := by decide +kernel
theorem dX12_behind_107 : decode cX12_behind 107 = .ok (.iconst 1, 1) := by decide +kernel
theorem dX12_behind_108 : decode cX12_behind 108 = .ok (.goto 4, 3) := by decide +kernel
theorem dX12_behind_111 : decode cX12_behind 111 = .ok (.iconst 0, 1) := by decide +kernel
theorem dX12_behind_112 : decode cX12_behind 112 = .ok (.ireturn, 1) := by decide +kernel
theorem dX12_sixes_0 : decode cX12_sixes 0 = .ok (.iconst 1, 1) := by decide +kernel
theorem dX12_sixes_1 : decode cX12_sixes 1 = .ok (.istore_n 1, 1) := by decide +kernel
theorem dX12_sixes_2 : decode cX12_sixes 2 = .ok (.iconst 0, 1) := by decide +kernel
theorem dX12_sixes_3 : decode cX12_sixes 3 = .ok (.istore_n 2, 1) := by decide +kernel
theorem dX12_sixes_4 : decode cX12_sixes 4 = .ok (.iload_n 2, 1) := by decide +kernel
theorem dX12_sixes_5 : decode cX12_sixes 5 = .ok (.iload_n 0, 1) := by decide +kernel
theorem dX12_sixes_6 : decode cX12_sixes 6 = .ok (.if_icmp .ge 14, 3) := by decide +kernel
theorem dX12_sixes_9 : decode cX12_sixes 9 = .ok (.iload_n 1, 1) := by decide +kernel
theorem dX12_sixes_10 : decode cX12_sixes 10 = .ok (.bipush 6, 2) := by decide +kernel
theorem dX12_sixes_12 : decode cX12_sixes 12 = .ok (.imul, 1) := by decide +kernel
theorem dX12_sixes_13 : decode cX12_sixes 13 = .ok (.istore_n 1, 1) := by decide +kernel
theorem dX12_sixes_14 : decode cX12_sixes 14 = .ok (.iinc 2 1, 3) := by decide +kernel
theorem dX12_sixes_17 : decode cX12_sixes 17 = .ok (.goto (-13), 3) := by decide +kernel
theorem dX12_sixes_20 : decode cX12_sixes 20 = .ok (.iload_n 1, 1) := by decide +kernel
theorem dX12_sixes_21 : decode cX12_sixes 21 = .ok (.ireturn, 1) := by decide +kernel
theorem dX12_digit_0 : decode cX12_digit 0 = .ok (.iload_n 1, 1) := by decide +kernel
theorem dX12_digit_1 : decode cX12_digit 1 = .ok (.iload_n 3, 1) := by decide +kernel
theorem dX12_digit_2 : decode cX12_digit 2 = .ok (.iconst 1, 1) := by decide +kernel
theorem dX12_digit_3 : decode cX12_digit 3 = .ok (.isub, 1) := by decide +kernel
theorem dX12_digit_4 : decode cX12_digit 4 = .ok (.iload_n 2, 1) := by decide +kernel
theorem dX12_digit_5 : decode cX12_digit 5 = .ok (.isub, 1) := by decide +kernel
theorem dX12_digit_6 : decode cX12_digit 6 = .ok (.invokestatic 414, 3) := by decide +kernel
theorem dX12_digit_9 : decode cX12_digit 9 = .ok (.idiv, 1) := by decide +kernel
theorem dX12_digit_10 : decode cX12_digit 10 = .ok (.bipush 6, 2) := by decide +kernel
theorem dX12_digit_12 : decode cX12_digit 12 = .ok (.irem, 1) := by decide +kernel
theorem dX12_digit_13 : decode cX12_digit 13 = .ok (.ireturn, 1) := by decide +kernel
theorem dX12_saved_0 : decode cX12_saved 0 = .ok (.aload_n 0, 1) := by decide +kernel
theorem dX12_saved_1 : decode cX12_saved 1 = .ok (.invokevirtual 316, 3) := by decide +kernel
theorem dX12_saved_4 : decode cX12_saved 4 = .ok (.iconst 0, 1) := by decide +kernel
theorem dX12_saved_5 : decode cX12_saved 5 = .ok (.istore_n 3, 1) := by decide +kernel
theorem dX12_saved_6 : decode cX12_saved 6 = .ok (.iload_n 3, 1) := by decide +kernel
theorem dX12_saved_7 : decode cX12_saved 7 = .ok (.iload_n 2, 1) := by decide +kernel
theorem dX12_saved_8 : decode cX12_saved 8 = .ok (.if_icmp .ge 92, 3) := by decide +kernel
theorem dX12_saved_11 : decode cX12_saved 11 = .ok (.aload_n 0, 1) := by decide +kernel
theorem dX12_saved_12 : decode cX12_saved 12 = .ok (.iload_n 1, 1) := by decide +kernel
theorem dX12_saved_13 : decode cX12_saved 13 = .ok (.iload_n 3, 1) := by decide +kernel
theorem dX12_saved_14 : decode cX12_saved 14 = .ok (.iload_n 2, 1) := by decide +kernel
theorem dX12_saved_15 : decode cX12_saved 15 = .ok (.invokevirtual 417, 3) := by decide +kernel
theorem dX12_saved_18 : decode cX12_saved 18 = .ok (.istore 4, 2) := by decide +kernel
theorem dX12_saved_20 : decode cX12_saved 20 = .ok (.iload 4, 2) := by decide +kernel
theorem dX12_saved_22 : decode cX12_saved 22 = .ok (.iconst 5, 1) := by decide +kernel
theorem dX12_saved_23 : decode cX12_saved 23 = .ok (.if_icmp .ne 15, 3) := by decide +kernel
theorem dX12_saved_26 : decode cX12_saved 26 = .ok (.aload_n 0, 1) := by decide +kernel
theorem dX12_saved_27 : decode cX12_saved 27 = .ok (.iconst 0, 1) := by decide +kernel
theorem dX12_saved_28 : decode cX12_saved 28 = .ok (.iconst (-1), 1) := by decide +kernel
theorem dX12_saved_29 : decode cX12_saved 29 = .ok (.invokevirtual 310, 3) := by decide +kernel
theorem dX12_saved_32 : decode cX12_saved 32 = .ok (.ifCond .eq 24, 3) := by decide +kernel
theorem dX12_saved_35 : decode cX12_saved 35 = .ok (.goto 13, 3) := by decide +kernel
theorem dX12_saved_38 : decode cX12_saved 38 = .ok (.aload_n 0, 1) := by decide +kernel
theorem dX12_saved_39 : decode cX12_saved 39 = .ok (.iconst 1, 1) := by decide +kernel
theorem dX12_saved_40 : decode cX12_saved 40 = .ok (.iload 4, 2) := by decide +kernel
theorem dX12_saved_42 : decode cX12_saved 42 = .ok (.invokevirtual 310, 3) := by decide +kernel
theorem dX12_saved_45 : decode cX12_saved 45 = .ok (.ifCond .eq 11, 3) := by decide +kernel
theorem dX12_saved_48 : decode cX12_saved 48 = .ok (.aload_n 0, 1) := by decide +kernel
theorem dX12_saved_49 : decode cX12_saved 49 = .ok (.getfield 250, 3) := by decide +kernel
theorem dX12_saved_52 : decode cX12_saved 52 = .ok (.iload_n 2, 1) := by decide +kernel
theorem dX12_saved_53 : decode cX12_saved 53 = .ok (.if_icmp .le 5, 3) := by decide +kernel
theorem dX12_saved_56 : decode cX12_saved 56 = .ok (.iconst (-1), 1) := by decide +kernel
theorem dX12_saved_57 : decode cX12_saved 57 = .ok (.ireturn, 1) := by decide +kernel
theorem dX12_saved_58 : decode cX12_saved 58 = .ok (.iload_n 3, 1) := by decide +kernel
theorem dX12_saved_59 : decode cX12_saved 59 = .ok (.iconst 1, 1) := by decide +kernel
theorem dX12_saved_60 : decode cX12_saved 60 = .ok (.iadd, 1) := by decide +kernel
theorem dX12_saved_61 : decode cX12_saved 61 = .ok (.istore 5, 2) := by decide +kernel
theorem dX12_saved_63 : decode cX12_saved 63 = .ok (.iload 5, 2) := by decide +kernel
theorem dX12_saved_65 : decode cX12_saved 65 = .ok (.aload_n 0, 1) := by decide +kernel
theorem dX12_saved_66 : decode cX12_saved 66 = .ok (.getfield 250, 3) := by decide +kernel
theorem dX12_saved_69 : decode cX12_saved 69 = .ok (.if_icmp .ge 23, 3) := by decide +kernel
theorem dX12_saved_72 : decode cX12_saved 72 = .ok (.aload_n 0, 1) := by decide +kernel
theorem dX12_saved_73 : decode cX12_saved 73 = .ok (.iload_n 1, 1) := by decide +kernel
theorem dX12_saved_74 : decode cX12_saved 74 = .ok (.iload 5, 2) := by decide +kernel
theorem dX12_saved_76 : decode cX12_saved 76 = .ok (.iload_n 2, 1) := by decide +kernel
theorem dX12_saved_77 : decode cX12_saved 77 = .ok (.invokevirtual 417, 3) := by decide +kernel
theorem dX12_saved_80 : decode cX12_saved 80 = .ok (.iconst 5, 1) := by decide +kernel
theorem dX12_saved_81 : decode cX12_saved 81 = .ok (.if_icmp .eq 5, 3) := by decide +kernel
theorem dX12_saved_84 : decode cX12_saved 84 = .ok (.iconst (-1), 1) := by decide +kernel
theorem dX12_saved_85 : decode cX12_saved 85 = .ok (.ireturn, 1) := by decide +kernel
theorem dX12_saved_86 : decode cX12_saved 86 = .ok (.iinc 5 1, 3) := by decide +kernel
theorem dX12_saved_89 : decode cX12_saved 89 = .ok (.goto (-26), 3) := by decide +kernel
theorem dX12_saved_92 : decode cX12_saved 92 = .ok (.aload_n 0, 1) := by decide +kernel
theorem dX12_saved_93 : decode cX12_saved 93 = .ok (.getfield 250, 3) := by decide +kernel
theorem dX12_saved_96 : decode cX12_saved 96 = .ok (.istore_n 3, 1) := by decide +kernel
theorem dX12_saved_97 : decode cX12_saved 97 = .ok (.goto (-91), 3) := by decide +kernel
theorem dX12_saved_100 : decode cX12_saved 100 = .ok (.aload_n 0, 1) := by decide +kernel
theorem dX12_saved_101 : decode cX12_saved 101 = .ok (.invokevirtual 274, 3) := by decide +kernel
theorem dX12_saved_104 : decode cX12_saved 104 = .ok (.invokestatic 389, 3) := by decide +kernel
theorem dX12_saved_107 : decode cX12_saved 107 = .ok (.ireturn, 1) := by decide +kernel
theorem dX12_save_0 : decode cX12_save 0 = .ok (.aload_n 0, 1) := by decide +kernel
theorem dX12_save_1 : decode cX12_save 1 = .ok (.iconst 0, 1) := by decide +kernel
theorem dX12_save_2 : decode cX12_save 2 = .ok (.putfield 88, 3) := by decide +kernel
theorem dX12_save_5 : decode cX12_save 5 = .ok (.iload_n 2, 1) := by decide +kernel
theorem dX12_save_6 : decode cX12_save 6 = .ok (.iconst 0, 1) := by decide +kernel
theorem dX12_save_7 : decode cX12_save 7 = .ok (.bipush 6, 2) := by decide +kernel
theorem dX12_save_9 : decode cX12_save 9 = .ok (.invokestatic 100, 3) := by decide +kernel
theorem dX12_save_12 : decode cX12_save 12 = .ok (.ifCond .eq 11, 3) := by decide +kernel
theorem dX12_save_15 : decode cX12_save 15 = .ok (.aload_n 0, 1) := by decide +kernel
theorem dX12_save_16 : decode cX12_save 16 = .ok (.iload_n 1, 1) := by decide +kernel
theorem dX12_save_17 : decode cX12_save 17 = .ok (.invokevirtual 241, 3) := by decide +kernel
theorem dX12_save_20 : decode cX12_save 20 = .ok (.ifCond .ne 6, 3) := by decide +kernel
theorem dX12_save_23 : decode cX12_save 23 = .ok (.bipush (-9), 2) := by decide +kernel
theorem dX12_save_25 : decode cX12_save 25 = .ok (.ireturn, 1) := by decide +kernel
theorem dX12_save_26 : decode cX12_save 26 = .ok (.iconst (-1), 1) := by decide +kernel
theorem dX12_save_27 : decode cX12_save 27 = .ok (.istore 4, 2) := by decide +kernel
theorem dX12_save_29 : decode cX12_save 29 = .ok (.iconst (-1), 1) := by decide +kernel
theorem dX12_save_30 : decode cX12_save 30 = .ok (.istore 5, 2) := by decide +kernel
theorem dX12_save_32 : decode cX12_save 32 = .ok (.iconst 0, 1) := by decide +kernel
theorem dX12_save_33 : decode cX12_save 33 = .ok (.istore 6, 2) := by decide +kernel
theorem dX12_save_35 : decode cX12_save 35 = .ok (.iload 6, 2) := by decide +kernel
theorem dX12_save_37 : decode cX12_save 37 = .ok (.iload_n 2, 1) := by decide +kernel
theorem dX12_save_38 : decode cX12_save 38 = .ok (.invokestatic 414, 3) := by decide +kernel
theorem dX12_save_41 : decode cX12_save 41 = .ok (.if_icmp .ge 53, 3) := by decide +kernel
theorem dX12_save_44 : decode cX12_save 44 = .ok (.aload_n 0, 1) := by decide +kernel
theorem dX12_save_45 : decode cX12_save 45 = .ok (.iload 6, 2) := by decide +kernel
theorem dX12_save_47 : decode cX12_save 47 = .ok (.iload_n 2, 1) := by decide +kernel
theorem dX12_save_48 : decode cX12_save 48 = .ok (.invokevirtual 421, 3) := by decide +kernel
theorem dX12_save_51 : decode cX12_save 51 = .ok (.istore 7, 2) := by decide +kernel
theorem dX12_save_53 : decode cX12_save 53 = .ok (.iload 7, 2) := by decide +kernel
theorem dX12_save_55 : decode cX12_save 55 = .ok (.iload 4, 2) := by decide +kernel
theorem dX12_save_57 : decode cX12_save 57 = .ok (.if_icmp .le 18, 3) := by decide +kernel
theorem dX12_save_60 : decode cX12_save 60 = .ok (.iload_n 2, 1) := by decide +kernel
theorem dX12_save_61 : decode cX12_save 61 = .ok (.ifCond .le 14, 3) := by decide +kernel
theorem dX12_save_64 : decode cX12_save 64 = .ok (.aload_n 0, 1) := by decide +kernel
theorem dX12_save_65 : decode cX12_save 65 = .ok (.iload 6, 2) := by decide +kernel
theorem dX12_save_67 : decode cX12_save 67 = .ok (.iconst 0, 1) := by decide +kernel
theorem dX12_save_68 : decode cX12_save 68 = .ok (.iload_n 2, 1) := by decide +kernel
theorem dX12_save_69 : decode cX12_save 69 = .ok (.invokevirtual 417, 3) := by decide +kernel
theorem dX12_save_72 : decode cX12_save 72 = .ok (.goto 5, 3) := by decide +kernel
theorem dX12_save_75 : decode cX12_save 75 = .ok (.iload 5, 2) := by decide +kernel
theorem dX12_save_77 : decode cX12_save 77 = .ok (.istore 5, 2) := by decide +kernel
theorem dX12_save_79 : decode cX12_save 79 = .ok (.iload 4, 2) := by decide +kernel
theorem dX12_save_81 : decode cX12_save 81 = .ok (.iload 7, 2) := by decide +kernel
theorem dX12_save_83 : decode cX12_save 83 = .ok (.invokestatic 280, 3) := by decide +kernel
theorem dX12_save_86 : decode cX12_save 86 = .ok (.istore 4, 2) := by decide +kernel
theorem dX12_save_88 : decode cX12_save 88 = .ok (.iinc 6 1, 3) := by decide +kernel
theorem dX12_save_91 : decode cX12_save 91 = .ok (.goto (-56), 3) := by decide +kernel
theorem dX12_save_94 : decode cX12_save 94 = .ok (.iload_n 3, 1) := by decide +kernel
theorem dX12_save_95 : decode cX12_save 95 = .ok (.ifCond .eq 8, 3) := by decide +kernel
theorem dX12_save_98 : decode cX12_save 98 = .ok (.iload 5, 2) := by decide +kernel
theorem dX12_save_100 : decode cX12_save 100 = .ok (.goto 5, 3) := by decide +kernel
theorem dX12_save_103 : decode cX12_save 103 = .ok (.iload 4, 2) := by decide +kernel
theorem dX12_save_105 : decode cX12_save 105 = .ok (.ireturn, 1) := by decide +kernel
theorem dX12_endOf_0 : decode cX12_endOf 0 = .ok (.aload_n 0, 1) := by decide +kernel
theorem dX12_endOf_1 : decode cX12_endOf 1 = .ok (.invokevirtual 316, 3) := by decide +kernel
theorem dX12_endOf_4 : decode cX12_endOf 4 = .ok (.iconst 0, 1) := by decide +kernel
theorem dX12_endOf_5 : decode cX12_endOf 5 = .ok (.istore_n 3, 1) := by decide +kernel
theorem dX12_endOf_6 : decode cX12_endOf 6 = .ok (.iload_n 3, 1) := by decide +kernel
theorem dX12_endOf_7 : decode cX12_endOf 7 = .ok (.iload_n 1, 1) := by decide +kernel
theorem dX12_endOf_8 : decode cX12_endOf 8 = .ok (.if_icmp .ge 85, 3) := by decide +kernel
theorem dX12_endOf_11 : decode cX12_endOf 11 = .ok (.aload_n 0, 1) := by decide +kernel
theorem dX12_endOf_12 : decode cX12_endOf 12 = .ok (.iload_n 2, 1) := by decide +kernel
theorem dX12_endOf_13 : decode cX12_endOf 13 = .ok (.iload_n 3, 1) := by decide +kernel
theorem dX12_endOf_14 : decode cX12_endOf 14 = .ok (.iload_n 1, 1) := by decide +kernel
theorem dX12_endOf_15 : decode cX12_endOf 15 = .ok (.invokevirtual 417, 3) := by decide +kernel
theorem dX12_endOf_18 : decode cX12_endOf 18 = .ok (.istore 4, 2) := by decide +kernel
theorem dX12_endOf_20 : decode cX12_endOf 20 = .ok (.iload_n 3, 1) := by decide +kernel
theorem dX12_endOf_21 : decode cX12_endOf 21 = .ok (.iconst 2, 1) := by decide +kernel
theorem dX12_endOf_22 : decode cX12_endOf 22 = .ok (.irem, 1) := by decide +kernel
theorem dX12_endOf_23 : decode cX12_endOf 23 = .ok (.iconst 1, 1) := by decide +kernel
theorem dX12_endOf_24 : decode cX12_endOf 24 = .ok (.if_icmp .ne 7, 3) := by decide +kernel
theorem dX12_endOf_27 : decode cX12_endOf 27 = .ok (.iconst 1, 1) := by decide +kernel
theorem dX12_endOf_28 : decode cX12_endOf 28 = .ok (.goto 4, 3) := by decide +kernel
theorem dX12_endOf_31 : decode cX12_endOf 31 = .ok (.iconst 0, 1) := by decide +kernel
theorem dX12_endOf_32 : decode cX12_endOf 32 = .ok (.istore 5, 2) := by decide +kernel
theorem dX12_endOf_34 : decode cX12_endOf 34 = .ok (.iload 4, 2) := by decide +kernel
theorem dX12_endOf_36 : decode cX12_endOf 36 = .ok (.iconst 5, 1) := by decide +kernel
theorem dX12_endOf_37 : decode cX12_endOf 37 = .ok (.if_icmp .ne 25, 3) := by decide +kernel
theorem dX12_endOf_40 : decode cX12_endOf 40 = .ok (.iload 5, 2) := by decide +kernel
theorem dX12_endOf_42 : decode cX12_endOf 42 = .ok (.ifCond .ne 12, 3) := by decide +kernel
theorem dX12_endOf_45 : decode cX12_endOf 45 = .ok (.aload_n 0, 1) := by decide +kernel
theorem dX12_endOf_46 : decode cX12_endOf 46 = .ok (.iconst 0, 1) := by decide +kernel
theorem dX12_endOf_47 : decode cX12_endOf 47 = .ok (.iconst (-1), 1) := by decide +kernel
theorem dX12_endOf_48 : decode cX12_endOf 48 = .ok (.invokevirtual 310, 3) := by decide +kernel
theorem dX12_endOf_51 : decode cX12_endOf 51 = .ok (.ifCond .eq 7, 3) := by decide +kernel
theorem dX12_endOf_54 : decode cX12_endOf 54 = .ok (.iconst 1, 1) := by decide +kernel
theorem dX12_endOf_55 : decode cX12_endOf 55 = .ok (.goto 23, 3) := by decide +kernel
theorem dX12_endOf_58 : decode cX12_endOf 58 = .ok (.iconst 0, 1) := by decide +kernel
theorem dX12_endOf_59 : decode cX12_endOf 59 = .ok (.goto 19, 3) := by decide +kernel
theorem dX12_endOf_62 : decode cX12_endOf 62 = .ok (.aload_n 0, 1) := by decide +kernel
theorem dX12_endOf_63 : decode cX12_endOf 63 = .ok (.iload 5, 2) := by decide +kernel
theorem dX12_endOf_65 : decode cX12_endOf 65 = .ok (.ifCond .eq 7, 3) := by decide +kernel
theorem dX12_endOf_68 : decode cX12_endOf 68 = .ok (.iconst 3, 1) := by decide +kernel
theorem dX12_endOf_69 : decode cX12_endOf 69 = .ok (.goto 4, 3) := by decide +kernel
theorem dX12_endOf_72 : decode cX12_endOf 72 = .ok (.iconst 1, 1) := by decide +kernel
theorem dX12_endOf_73 : decode cX12_endOf 73 = .ok (.iload 4, 2) := by decide +kernel
theorem dX12_endOf_75 : decode cX12_endOf 75 = .ok (.invokevirtual 310, 3) := by decide +kernel
theorem dX12_endOf_78 : decode cX12_endOf 78 = .ok (.istore 6, 2) := by decide +kernel
theorem dX12_endOf_80 : decode cX12_endOf 80 = .ok (.iload 6, 2) := by decide +kernel
theorem dX12_endOf_82 : decode cX12_endOf 82 = .ok (.ifCond .ne 5, 3) := by decide +kernel
theorem dX12_endOf_85 : decode cX12_endOf 85 = .ok (.iconst (-1), 1) := by decide +kernel
theorem dX12_endOf_86 : decode cX12_endOf 86 = .ok (.ireturn, 1) := by decide +kernel
theorem dX12_endOf_87 : decode cX12_endOf 87 = .ok (.iinc 3 1, 3) := by decide +kernel
theorem dX12_endOf_90 : decode cX12_endOf 90 = .ok (.goto (-84), 3) := by decide +kernel
theorem dX12_endOf_93 : decode cX12_endOf 93 = .ok (.aload_n 0, 1) := by decide +kernel
theorem dX12_endOf_94 : decode cX12_endOf 94 = .ok (.invokevirtual 274, 3) := by decide +kernel
theorem dX12_endOf_97 : decode cX12_endOf 97 = .ok (.invokestatic 389, 3) := by decide +kernel
theorem dX12_endOf_100 : decode cX12_endOf 100 = .ok (.ireturn, 1) := by decide +kernel
theorem dX12_fold_0 : decode cX12_fold 0 = .ok (.iconst (-1), 1) := by decide +kernel
theorem dX12_fold_1 : decode cX12_fold 1 = .ok (.istore_n 3, 1) := by decide +kernel
theorem dX12_fold_2 : decode cX12_fold 2 = .ok (.aload_n 0, 1) := by decide +kernel
theorem dX12_fold_3 : decode cX12_fold 3 = .ok (.iconst (-1), 1) := by decide +kernel
theorem dX12_fold_4 : decode cX12_fold 4 = .ok (.putfield 424, 3) := by decide +kernel
theorem dX12_fold_7 : decode cX12_fold 7 = .ok (.iconst 0, 1) := by decide +kernel
theorem dX12_fold_8 : decode cX12_fold 8 = .ok (.istore 4, 2) := by decide +kernel
theorem dX12_fold_10 : decode cX12_fold 10 = .ok (.iload 4, 2) := by decide +kernel
theorem dX12_fold_12 : decode cX12_fold 12 = .ok (.bipush 6, 2) := by decide +kernel
theorem dX12_fold_14 : decode cX12_fold 14 = .ok (.if_icmp .ge 59, 3) := by decide +kernel
theorem dX12_fold_17 : decode cX12_fold 17 = .ok (.aload_n 0, 1) := by decide +kernel
theorem dX12_fold_18 : decode cX12_fold 18 = .ok (.getfield 75, 3) := by decide +kernel
theorem dX12_fold_21 : decode cX12_fold 21 = .ok (.iload_n 1, 1) := by decide +kernel
theorem dX12_fold_22 : decode cX12_fold 22 = .ok (.iload 4, 2) := by decide +kernel
theorem dX12_fold_24 : decode cX12_fold 24 = .ok (.iadd, 1) := by decide +kernel
theorem dX12_fold_25 : decode cX12_fold 25 = .ok (.iaload, 1) := by decide +kernel
theorem dX12_fold_26 : decode cX12_fold 26 = .ok (.istore 5, 2) := by decide +kernel
theorem dX12_fold_28 : decode cX12_fold 28 = .ok (.iload 5, 2) := by decide +kernel
theorem dX12_fold_30 : decode cX12_fold 30 = .ok (.iconst (-1), 1) := by decide +kernel
theorem dX12_fold_31 : decode cX12_fold 31 = .ok (.if_icmp .eq 36, 3) := by decide +kernel
theorem dX12_fold_34 : decode cX12_fold 34 = .ok (.iload_n 3, 1) := by decide +kernel
theorem dX12_fold_35 : decode cX12_fold 35 = .ok (.iconst (-1), 1) := by decide +kernel
theorem dX12_fold_36 : decode cX12_fold 36 = .ok (.if_icmp .eq 22, 3) := by decide +kernel
theorem dX12_fold_39 : decode cX12_fold 39 = .ok (.iload_n 2, 1) := by decide +kernel
theorem dX12_fold_40 : decode cX12_fold 40 = .ok (.ifCond .eq 12, 3) := by decide +kernel
theorem dX12_fold_43 : decode cX12_fold 43 = .ok (.iload 5, 2) := by decide +kernel
theorem dX12_fold_45 : decode cX12_fold 45 = .ok (.iload_n 3, 1) := by decide +kernel
theorem dX12_fold_46 : decode cX12_fold 46 = .ok (.if_icmp .le 21, 3) := by decide +kernel
theorem dX12_fold_49 : decode cX12_fold 49 = .ok (.goto 9, 3) := by decide +kernel
theorem dX12_fold_52 : decode cX12_fold 52 = .ok (.iload 5, 2) := by decide +kernel
theorem dX12_fold_54 : decode cX12_fold 54 = .ok (.iload_n 3, 1) := by decide +kernel
theorem dX12_fold_55 : decode cX12_fold 55 = .ok (.if_icmp .ge 12, 3) := by decide +kernel
theorem dX12_fold_58 : decode cX12_fold 58 = .ok (.iload 5, 2) := by decide +kernel
theorem dX12_fold_60 : decode cX12_fold 60 = .ok (.istore_n 3, 1) := by decide +kernel
theorem dX12_fold_61 : decode cX12_fold 61 = .ok (.aload_n 0, 1) := by decide +kernel
theorem dX12_fold_62 : decode cX12_fold 62 = .ok (.iload 4, 2) := by decide +kernel
theorem dX12_fold_64 : decode cX12_fold 64 = .ok (.putfield 424, 3) := by decide +kernel
theorem dX12_fold_67 : decode cX12_fold 67 = .ok (.iinc 4 1, 3) := by decide +kernel
theorem dX12_fold_70 : decode cX12_fold 70 = .ok (.goto (-60), 3) := by decide +kernel
theorem dX12_fold_73 : decode cX12_fold 73 = .ok (.iload_n 3, 1) := by decide +kernel
theorem dX12_fold_74 : decode cX12_fold 74 = .ok (.ireturn, 1) := by decide +kernel
theorem dX12_duel_0 : decode cX12_duel 0 = .ok (.aload_n 0, 1) := by decide +kernel
theorem dX12_duel_1 : decode cX12_duel 1 = .ok (.iconst 0, 1) := by decide +kernel
theorem dX12_duel_2 : decode cX12_duel 2 = .ok (.putfield 88, 3) := by decide +kernel
theorem dX12_duel_5 : decode cX12_duel 5 = .ok (.iload_n 2, 1) := by decide +kernel
theorem dX12_duel_6 : decode cX12_duel 6 = .ok (.iconst 0, 1) := by decide +kernel
theorem dX12_duel_7 : decode cX12_duel 7 = .ok (.iconst 3, 1) := by decide +kernel
theorem dX12_duel_8 : decode cX12_duel 8 = .ok (.invokestatic 100, 3) := by decide +kernel
theorem dX12_duel_11 : decode cX12_duel 11 = .ok (.ifCond .eq 11, 3) := by decide +kernel
theorem dX12_duel_14 : decode cX12_duel 14 = .ok (.aload_n 0, 1) := by decide +kernel
theorem dX12_duel_15 : decode cX12_duel 15 = .ok (.iload_n 1, 1) := by decide +kernel
theorem dX12_duel_16 : decode cX12_duel 16 = .ok (.invokevirtual 241, 3) := by decide +kernel
theorem dX12_duel_19 : decode cX12_duel 19 = .ok (.ifCond .ne 6, 3) := by decide +kernel
theorem dX12_duel_22 : decode cX12_duel 22 = .ok (.bipush (-9), 2) := by decide +kernel
theorem dX12_duel_24 : decode cX12_duel 24 = .ok (.ireturn, 1) := by decide +kernel
theorem dX12_duel_25 : decode cX12_duel 25 = .ok (.iload_n 2, 1) := by decide +kernel
theorem dX12_duel_26 : decode cX12_duel 26 = .ok (.invokestatic 414, 3) := by decide +kernel
theorem dX12_duel_29 : decode cX12_duel 29 = .ok (.istore 4, 2) := by decide +kernel
theorem dX12_duel_31 : decode cX12_duel 31 = .ok (.iconst 0, 1) := by decide +kernel
theorem dX12_duel_32 : decode cX12_duel 32 = .ok (.istore 5, 2) := by decide +kernel
theorem dX12_duel_34 : decode cX12_duel 34 = .ok (.iload 5, 2) := by decide +kernel
theorem dX12_duel_36 : decode cX12_duel 36 = .ok (.iload 4, 2) := by decide +kernel
theorem dX12_duel_38 : decode cX12_duel 38 = .ok (.if_icmp .ge 23, 3) := by decide +kernel
theorem dX12_duel_41 : decode cX12_duel 41 = .ok (.aload_n 0, 1) := by decide +kernel
theorem dX12_duel_42 : decode cX12_duel 42 = .ok (.getfield 75, 3) := by decide +kernel
theorem dX12_duel_45 : decode cX12_duel 45 = .ok (.iload 5, 2) := by decide +kernel
theorem dX12_duel_47 : decode cX12_duel 47 = .ok (.aload_n 0, 1) := by decide +kernel
theorem dX12_duel_48 : decode cX12_duel 48 = .ok (.iload_n 2, 1) := by decide +kernel
theorem dX12_duel_49 : decode cX12_duel 49 = .ok (.iload 5, 2) := by decide +kernel
theorem dX12_duel_51 : decode cX12_duel 51 = .ok (.invokevirtual 427, 3) := by decide +kernel
theorem dX12_duel_54 : decode cX12_duel 54 = .ok (.iastore, 1) := by decide +kernel
theorem dX12_duel_55 : decode cX12_duel 55 = .ok (.iinc 5 1, 3) := by decide +kernel
theorem dX12_duel_58 : decode cX12_duel 58 = .ok (.goto (-24), 3) := by decide +kernel
theorem dX12_duel_61 : decode cX12_duel 61 = .ok (.aload_n 0, 1) := by decide +kernel
theorem dX12_duel_62 : decode cX12_duel 62 = .ok (.iconst (-1), 1) := by decide +kernel
theorem dX12_duel_63 : decode cX12_duel 63 = .ok (.putfield 424, 3) := by decide +kernel
theorem dX12_duel_66 : decode cX12_duel 66 = .ok (.iload_n 2, 1) := by decide +kernel
theorem dX12_duel_67 : decode cX12_duel 67 = .ok (.iconst 1, 1) := by decide +kernel
theorem dX12_duel_68 : decode cX12_duel 68 = .ok (.isub, 1) := by decide +kernel
theorem dX12_duel_69 : decode cX12_duel 69 = .ok (.istore 5, 2) := by decide +kernel
theorem dX12_duel_71 : decode cX12_duel 71 = .ok (.iload 5, 2) := by decide +kernel
theorem dX12_duel_73 : decode cX12_duel 73 = .ok (.ifCond .lt 60, 3) := by decide +kernel
theorem dX12_duel_76 : decode cX12_duel 76 = .ok (.iload 4, 2) := by decide +kernel
theorem dX12_duel_78 : decode cX12_duel 78 = .ok (.bipush 6, 2) := by decide +kernel
theorem dX12_duel_80 : decode cX12_duel 80 = .ok (.idiv, 1) := by decide +kernel
theorem dX12_duel_81 : decode cX12_duel 81 = .ok (.istore 4, 2) := by decide +kernel
theorem dX12_duel_83 : decode cX12_duel 83 = .ok (.iconst 0, 1) := by decide +kernel
theorem dX12_duel_84 : decode cX12_duel 84 = .ok (.istore 6, 2) := by decide +kernel
theorem dX12_duel_86 : decode cX12_duel 86 = .ok (.iload 6, 2) := by decide +kernel
theorem dX12_duel_88 : decode cX12_duel 88 = .ok (.iload 4, 2) := by decide +kernel
theorem dX12_duel_90 : decode cX12_duel 90 = .ok (.if_icmp .ge 37, 3) := by decide +kernel
theorem dX12_duel_93 : decode cX12_duel 93 = .ok (.aload_n 0, 1) := by decide +kernel
theorem dX12_duel_94 : decode cX12_duel 94 = .ok (.getfield 75, 3) := by decide +kernel
theorem dX12_duel_97 : decode cX12_duel 97 = .ok (.iload 6, 2) := by decide +kernel
theorem dX12_duel_99 : decode cX12_duel 99 = .ok (.aload_n 0, 1) := by decide +kernel
theorem dX12_duel_100 : decode cX12_duel 100 = .ok (.bipush 6, 2) := by decide +kernel
theorem dX12_duel_102 : decode cX12_duel 102 = .ok (.iload 6, 2) := by decide +kernel
theorem dX12_duel_104 : decode cX12_duel 104 = .ok (.imul, 1) := by decide +kernel
theorem dX12_duel_105 : decode cX12_duel 105 = .ok (.iload 5, 2) := by decide +kernel
theorem dX12_duel_107 : decode cX12_duel 107 = .ok (.iconst 2, 1) := by decide +kernel
theorem dX12_duel_108 : decode cX12_duel 108 = .ok (.irem, 1) := by decide +kernel
theorem dX12_duel_109 : decode cX12_duel 109 = .ok (.ifCond .ne 7, 3) := by decide +kernel
theorem dX12_duel_112 : decode cX12_duel 112 = .ok (.iconst 1, 1) := by decide +kernel
theorem dX12_duel_113 : decode cX12_duel 113 = .ok (.goto 4, 3) := by decide +kernel
theorem dX12_duel_116 : decode cX12_duel 116 = .ok (.iconst 0, 1) := by decide +kernel
theorem dX12_duel_117 : decode cX12_duel 117 = .ok (.invokevirtual 430, 3) := by decide +kernel
theorem dX12_duel_120 : decode cX12_duel 120 = .ok (.iastore, 1) := by decide +kernel
theorem dX12_duel_121 : decode cX12_duel 121 = .ok (.iinc 6 1, 3) := by decide +kernel
theorem dX12_duel_124 : decode cX12_duel 124 = .ok (.goto (-38), 3) := by decide +kernel
theorem dX12_duel_127 : decode cX12_duel 127 = .ok (.iinc 5 (-1), 3) := by decide +kernel
theorem dX12_duel_130 : decode cX12_duel 130 = .ok (.goto (-59), 3) := by decide +kernel
theorem dX12_duel_133 : decode cX12_duel 133 = .ok (.iload_n 3, 1) := by decide +kernel
theorem dX12_duel_134 : decode cX12_duel 134 = .ok (.ifCond .eq 10, 3) := by decide +kernel
theorem dX12_duel_137 : decode cX12_duel 137 = .ok (.aload_n 0, 1) := by decide +kernel
theorem dX12_duel_138 : decode cX12_duel 138 = .ok (.getfield 424, 3) := by decide +kernel
theorem dX12_duel_141 : decode cX12_duel 141 = .ok (.goto 9, 3) := by decide +kernel
theorem dX12_duel_144 : decode cX12_duel 144 = .ok (.aload_n 0, 1) := by decide +kernel
theorem dX12_duel_145 : decode cX12_duel 145 = .ok (.getfield 75, 3) := by decide +kernel
theorem dX12_duel_148 : decode cX12_duel 148 = .ok (.iconst 0, 1) := by decide +kernel
theorem dX12_duel_149 : decode cX12_duel 149 = .ok (.iaload, 1) := by decide +kernel
theorem dX12_duel_150 : decode cX12_duel 150 = .ok (.ireturn, 1) := by decide +kernel
theorem dX12_common_0 : decode cX12_common 0 = .ok (.iload_n 0, 1) := by decide +kernel
theorem dX12_common_1 : decode cX12_common 1 = .ok (.istore_n 2, 1) := by decide +kernel
theorem dX12_common_2 : decode cX12_common 2 = .ok (.iload_n 1, 1) := by decide +kernel
theorem dX12_common_3 : decode cX12_common 3 = .ok (.istore_n 3, 1) := by decide +kernel
theorem dX12_common_4 : decode cX12_common 4 = .ok (.iload_n 3, 1) := by decide +kernel
theorem dX12_common_5 : decode cX12_common 5 = .ok (.ifCond .eq 16, 3) := by decide +kernel
theorem dX12_common_8 : decode cX12_common 8 = .ok (.iload_n 2, 1) := by decide +kernel
theorem dX12_common_9 : decode cX12_common 9 = .ok (.iload_n 3, 1) := by decide +kernel
theorem dX12_common_10 : decode cX12_common 10 = .ok (.irem, 1) := by decide +kernel
theorem dX12_common_11 : decode cX12_common 11 = .ok (.istore 4, 2) := by decide +kernel
theorem dX12_common_13 : decode cX12_common 13 = .ok (.iload_n 3, 1) := by decide +kernel
theorem dX12_common_14 : decode cX12_common 14 = .ok (.istore_n 2, 1) := by decide +kernel
theorem dX12_common_15 : decode cX12_common 15 = .ok (.iload 4, 2) := by decide +kernel
theorem dX12_common_17 : decode cX12_common 17 = .ok (.istore_n 3, 1) := by decide +kernel
theorem dX12_common_18 : decode cX12_common 18 = .ok (.goto (-14), 3) := by decide +kernel
theorem dX12_common_21 : decode cX12_common 21 = .ok (.iload_n 2, 1) := by decide +kernel
theorem dX12_common_22 : decode cX12_common 22 = .ok (.ireturn, 1) := by decide +kernel
theorem dX12_part_0 : decode cX12_part 0 = .ok (.iload_n 2, 1) := by decide +kernel
theorem dX12_part_1 : decode cX12_part 1 = .ok (.ifCond .eq 7, 3) := by decide +kernel
theorem dX12_part_4 : decode cX12_part 4 = .ok (.iload_n 1, 1) := by decide +kernel
theorem dX12_part_5 : decode cX12_part 5 = .ok (.goto 4, 3) := by decide +kernel
theorem dX12_part_8 : decode cX12_part 8 = .ok (.iload_n 0, 1) := by decide +kernel
theorem dX12_part_9 : decode cX12_part 9 = .ok (.iload_n 1, 1) := by decide +kernel
theorem dX12_part_10 : decode cX12_part 10 = .ok (.iload_n 0, 1) := by decide +kernel
theorem dX12_part_11 : decode cX12_part 11 = .ok (.invokestatic 434, 3) := by decide +kernel
theorem dX12_part_14 : decode cX12_part 14 = .ok (.idiv, 1) := by decide +kernel
theorem dX12_part_15 : decode cX12_part 15 = .ok (.ireturn, 1) := by decide +kernel
theorem dX12_times_0 : decode cX12_times 0 = .ok (.iconst 1, 1) := by decide +kernel
theorem dX12_times_1 : decode cX12_times 1 = .ok (.istore_n 2, 1) := by decide +kernel
theorem dX12_times_2 : decode cX12_times 2 = .ok (.iconst 0, 1) := by decide +kernel
theorem dX12_times_3 : decode cX12_times 3 = .ok (.istore_n 3, 1) := by decide +kernel
theorem dX12_times_4 : decode cX12_times 4 = .ok (.iload_n 3, 1) := by decide +kernel
theorem dX12_times_5 : decode cX12_times 5 = .ok (.iload_n 1, 1) := by decide +kernel
theorem dX12_times_6 : decode cX12_times 6 = .ok (.if_icmp .ge 13, 3) := by decide +kernel
theorem dX12_times_9 : decode cX12_times 9 = .ok (.iload_n 2, 1) := by decide +kernel
theorem dX12_times_10 : decode cX12_times 10 = .ok (.iload_n 0, 1) := by decide +kernel
theorem dX12_times_11 : decode cX12_times 11 = .ok (.imul, 1) := by decide +kernel
theorem dX12_times_12 : decode cX12_times 12 = .ok (.istore_n 2, 1) := by decide +kernel
theorem dX12_times_13 : decode cX12_times 13 = .ok (.iinc 3 1, 3) := by decide +kernel
theorem dX12_times_16 : decode cX12_times 16 = .ok (.goto (-12), 3) := by decide +kernel
theorem dX12_times_19 : decode cX12_times 19 = .ok (.iload_n 2, 1) := by decide +kernel
theorem dX12_times_20 : decode cX12_times 20 = .ok (.ireturn, 1) := by decide +kernel
theorem dX12_odds_0 : decode cX12_odds 0 = .ok (.aload_n 0, 1) := by decide +kernel
theorem dX12_odds_1 : decode cX12_odds 1 = .ok (.iconst 0, 1) := by decide +kernel
theorem dX12_odds_2 : decode cX12_odds 2 = .ok (.putfield 88, 3) := by decide +kernel
theorem dX12_odds_5 : decode cX12_odds 5 = .ok (.iload_n 3, 1) := by decide +kernel
theorem dX12_odds_6 : decode cX12_odds 6 = .ok (.iconst 0, 1) := by decide +kernel
theorem dX12_odds_7 : decode cX12_odds 7 = .ok (.bipush 10, 2) := by decide +kernel
theorem dX12_odds_9 : decode cX12_odds 9 = .ok (.invokestatic 100, 3) := by decide +kernel
theorem dX12_odds_12 : decode cX12_odds 12 = .ok (.ifCond .eq 30, 3) := by decide +kernel
theorem dX12_odds_15 : decode cX12_odds 15 = .ok (.iload 4, 2) := by decide +kernel
theorem dX12_odds_17 : decode cX12_odds 17 = .ok (.iconst 0, 1) := by decide +kernel
theorem dX12_odds_18 : decode cX12_odds 18 = .ok (.bipush 6, 2) := by decide +kernel
theorem dX12_odds_20 : decode cX12_odds 20 = .ok (.invokestatic 100, 3) := by decide +kernel
theorem dX12_odds_23 : decode cX12_odds 23 = .ok (.ifCond .eq 19, 3) := by decide +kernel
theorem dX12_odds_26 : decode cX12_odds 26 = .ok (.aload_n 0, 1) := by decide +kernel
theorem dX12_odds_27 : decode cX12_odds 27 = .ok (.iload_n 1, 1) := by decide +kernel
theorem dX12_odds_28 : decode cX12_odds 28 = .ok (.invokevirtual 241, 3) := by decide +kernel
theorem dX12_odds_31 : decode cX12_odds 31 = .ok (.ifCond .eq 11, 3) := by decide +kernel
theorem dX12_odds_34 : decode cX12_odds 34 = .ok (.aload_n 0, 1) := by decide +kernel
theorem dX12_odds_35 : decode cX12_odds 35 = .ok (.iload_n 2, 1) := by decide +kernel
theorem dX12_odds_36 : decode cX12_odds 36 = .ok (.invokevirtual 244, 3) := by decide +kernel
theorem dX12_odds_39 : decode cX12_odds 39 = .ok (.ifCond .ne 5, 3) := by decide +kernel
theorem dX12_odds_42 : decode cX12_odds 42 = .ok (.iconst (-1), 1) := by decide +kernel
theorem dX12_odds_43 : decode cX12_odds 43 = .ok (.ireturn, 1) := by decide +kernel
theorem dX12_odds_44 : decode cX12_odds 44 = .ok (.iconst 0, 1) := by decide +kernel
theorem dX12_odds_45 : decode cX12_odds 45 = .ok (.istore 6, 2) := by decide +kernel
theorem dX12_odds_47 : decode cX12_odds 47 = .ok (.iconst 1, 1) := by decide +kernel
theorem dX12_odds_48 : decode cX12_odds 48 = .ok (.istore 7, 2) := by decide +kernel
theorem dX12_odds_50 : decode cX12_odds 50 = .ok (.iconst 0, 1) := by decide +kernel
theorem dX12_odds_51 : decode cX12_odds 51 = .ok (.istore 8, 2) := by decide +kernel
theorem dX12_odds_53 : decode cX12_odds 53 = .ok (.iload 8, 2) := by decide +kernel
theorem dX12_odds_55 : decode cX12_odds 55 = .ok (.iload 4, 2) := by decide +kernel
theorem dX12_odds_57 : decode cX12_odds 57 = .ok (.if_icmp .gt 69, 3) := by decide +kernel
theorem dX12_odds_60 : decode cX12_odds 60 = .ok (.iload 6, 2) := by decide +kernel
theorem dX12_odds_62 : decode cX12_odds 62 = .ok (.aload_n 0, 1) := by decide +kernel
theorem dX12_odds_63 : decode cX12_odds 63 = .ok (.getfield 47, 3) := by decide +kernel
theorem dX12_odds_66 : decode cX12_odds 66 = .ok (.iload_n 2, 1) := by decide +kernel
theorem dX12_odds_67 : decode cX12_odds 67 = .ok (.iaload, 1) := by decide +kernel
theorem dX12_odds_68 : decode cX12_odds 68 = .ok (.iload 4, 2) := by decide +kernel
theorem dX12_odds_70 : decode cX12_odds 70 = .ok (.iload 8, 2) := by decide +kernel
theorem dX12_odds_72 : decode cX12_odds 72 = .ok (.iadd, 1) := by decide +kernel
theorem dX12_odds_73 : decode cX12_odds 73 = .ok (.if_icmp .le 28, 3) := by decide +kernel
theorem dX12_odds_76 : decode cX12_odds 76 = .ok (.iload 7, 2) := by decide +kernel
theorem dX12_odds_78 : decode cX12_odds 78 = .ok (.iload_n 3, 1) := by decide +kernel
theorem dX12_odds_79 : decode cX12_odds 79 = .ok (.iload 8, 2) := by decide +kernel
theorem dX12_odds_81 : decode cX12_odds 81 = .ok (.invokestatic 437, 3) := by decide +kernel
theorem dX12_odds_84 : decode cX12_odds 84 = .ok (.imul, 1) := by decide +kernel
theorem dX12_odds_85 : decode cX12_odds 85 = .ok (.bipush 10, 2) := by decide +kernel
theorem dX12_odds_87 : decode cX12_odds 87 = .ok (.iload_n 3, 1) := by decide +kernel
theorem dX12_odds_88 : decode cX12_odds 88 = .ok (.isub, 1) := by decide +kernel
theorem dX12_odds_89 : decode cX12_odds 89 = .ok (.iload 4, 2) := by decide +kernel
theorem dX12_odds_91 : decode cX12_odds 91 = .ok (.iload 8, 2) := by decide +kernel
theorem dX12_odds_93 : decode cX12_odds 93 = .ok (.isub, 1) := by decide +kernel
theorem dX12_odds_94 : decode cX12_odds 94 = .ok (.invokestatic 437, 3) := by decide +kernel
theorem dX12_odds_97 : decode cX12_odds 97 = .ok (.imul, 1) := by decide +kernel
theorem dX12_odds_98 : decode cX12_odds 98 = .ok (.goto 4, 3) := by decide +kernel
theorem dX12_odds_101 : decode cX12_odds 101 = .ok (.iconst 0, 1) := by decide +kernel
theorem dX12_odds_102 : decode cX12_odds 102 = .ok (.iadd, 1) := by decide +kernel
theorem dX12_odds_103 : decode cX12_odds 103 = .ok (.istore 6, 2) := by decide +kernel
theorem dX12_odds_105 : decode cX12_odds 105 = .ok (.iload 7, 2) := by decide +kernel
theorem dX12_odds_107 : decode cX12_odds 107 = .ok (.iload 4, 2) := by decide +kernel
theorem dX12_odds_109 : decode cX12_odds 109 = .ok (.iload 8, 2) := by decide +kernel
theorem dX12_odds_111 : decode cX12_odds 111 = .ok (.isub, 1) := by decide +kernel
theorem dX12_odds_112 : decode cX12_odds 112 = .ok (.imul, 1) := by decide +kernel
theorem dX12_odds_113 : decode cX12_odds 113 = .ok (.iload 8, 2) := by decide +kernel
theorem dX12_odds_115 : decode cX12_odds 115 = .ok (.iconst 1, 1) := by decide +kernel
theorem dX12_odds_116 : decode cX12_odds 116 = .ok (.iadd, 1) := by decide +kernel
theorem dX12_odds_117 : decode cX12_odds 117 = .ok (.idiv, 1) := by decide +kernel
theorem dX12_odds_118 : decode cX12_odds 118 = .ok (.istore 7, 2) := by decide +kernel
theorem dX12_odds_120 : decode cX12_odds 120 = .ok (.iinc 8 1, 3) := by decide +kernel
theorem dX12_odds_123 : decode cX12_odds 123 = .ok (.goto (-70), 3) := by decide +kernel
theorem dX12_odds_126 : decode cX12_odds 126 = .ok (.iload 6, 2) := by decide +kernel
theorem dX12_odds_128 : decode cX12_odds 128 = .ok (.bipush 10, 2) := by decide +kernel
theorem dX12_odds_130 : decode cX12_odds 130 = .ok (.iload 4, 2) := by decide +kernel
theorem dX12_odds_132 : decode cX12_odds 132 = .ok (.invokestatic 437, 3) := by decide +kernel
theorem dX12_odds_135 : decode cX12_odds 135 = .ok (.iload 5, 2) := by decide +kernel
theorem dX12_odds_137 : decode cX12_odds 137 = .ok (.invokestatic 440, 3) := by decide +kernel
theorem dX12_odds_140 : decode cX12_odds 140 = .ok (.ireturn, 1) := by decide +kernel
theorem dX12_runs_0 : decode cX12_runs 0 = .ok (.aload_n 0, 1) := by decide +kernel
theorem dX12_runs_1 : decode cX12_runs 1 = .ok (.getfield 32, 3) := by decide +kernel
theorem dX12_runs_4 : decode cX12_runs 4 = .ok (.bipush 26, 2) := by decide +kernel
theorem dX12_runs_6 : decode cX12_runs 6 = .ok (.aload_n 0, 1) := by decide +kernel
theorem dX12_runs_7 : decode cX12_runs 7 = .ok (.getfield 444, 3) := by decide +kernel
theorem dX12_runs_10 : decode cX12_runs 10 = .ok (.imul, 1) := by decide +kernel
theorem dX12_runs_11 : decode cX12_runs 11 = .ok (.iaload, 1) := by decide +kernel
theorem dX12_runs_12 : decode cX12_runs 12 = .ok (.ireturn, 1) := by decide +kernel
theorem dX12_facts_0 : decode cX12_facts 0 = .ok (.aload_n 0, 1) := by decide +kernel
theorem dX12_facts_1 : decode cX12_facts 1 = .ok (.getfield 32, 3) := by decide +kernel
theorem dX12_facts_4 : decode cX12_facts 4 = .ok (.bipush 26, 2) := by decide +kernel
theorem dX12_facts_6 : decode cX12_facts 6 = .ok (.aload_n 0, 1) := by decide +kernel
theorem dX12_facts_7 : decode cX12_facts 7 = .ok (.getfield 444, 3) := by decide +kernel
theorem dX12_facts_10 : decode cX12_facts 10 = .ok (.imul, 1) := by decide +kernel
theorem dX12_facts_11 : decode cX12_facts 11 = .ok (.iconst 1, 1) := by decide +kernel
theorem dX12_facts_12 : decode cX12_facts 12 = .ok (.iadd, 1) := by decide +kernel
theorem dX12_facts_13 : decode cX12_facts 13 = .ok (.iaload, 1) := by decide +kernel
theorem dX12_facts_14 : decode cX12_facts 14 = .ok (.ireturn, 1) := by decide +kernel
theorem dX12_factOf_0 : decode cX12_factOf 0 = .ok (.aload_n 0, 1) := by decide +kernel
theorem dX12_factOf_1 : decode cX12_factOf 1 = .ok (.getfield 32, 3) := by decide +kernel
theorem dX12_factOf_4 : decode cX12_factOf 4 = .ok (.bipush 26, 2) := by decide +kernel
theorem dX12_factOf_6 : decode cX12_factOf 6 = .ok (.aload_n 0, 1) := by decide +kernel
theorem dX12_factOf_7 : decode cX12_factOf 7 = .ok (.getfield 444, 3) := by decide +kernel
theorem dX12_factOf_10 : decode cX12_factOf 10 = .ok (.imul, 1) := by decide +kernel
theorem dX12_factOf_11 : decode cX12_factOf 11 = .ok (.iconst 2, 1) := by decide +kernel
theorem dX12_factOf_12 : decode cX12_factOf 12 = .ok (.iadd, 1) := by decide +kernel
theorem dX12_factOf_13 : decode cX12_factOf 13 = .ok (.iconst 3, 1) := by decide +kernel
theorem dX12_factOf_14 : decode cX12_factOf 14 = .ok (.iload_n 1, 1) := by decide +kernel
theorem dX12_factOf_15 : decode cX12_factOf 15 = .ok (.imul, 1) := by decide +kernel
theorem dX12_factOf_16 : decode cX12_factOf 16 = .ok (.iadd, 1) := by decide +kernel
theorem dX12_factOf_17 : decode cX12_factOf 17 = .ok (.iload_n 2, 1) := by decide +kernel
theorem dX12_factOf_18 : decode cX12_factOf 18 = .ok (.iadd, 1) := by decide +kernel
theorem dX12_factOf_19 : decode cX12_factOf 19 = .ok (.iaload, 1) := by decide +kernel
theorem dX12_factOf_20 : decode cX12_factOf 20 = .ok (.ireturn, 1) := by decide +kernel
theorem dX12_hasLog_0 : decode cX12_hasLog 0 = .ok (.aload_n 0, 1) := by decide +kernel
theorem dX12_hasLog_1 : decode cX12_hasLog 1 = .ok (.iload_n 1, 1) := by decide +kernel
theorem dX12_hasLog_2 : decode cX12_hasLog 2 = .ok (.putfield 444, 3) := by decide +kernel
theorem dX12_hasLog_5 : decode cX12_hasLog 5 = .ok (.aload_n 0, 1) := by decide +kernel
theorem dX12_hasLog_6 : decode cX12_hasLog 6 = .ok (.iconst 2, 1) := by decide +kernel
theorem dX12_hasLog_7 : decode cX12_hasLog 7 = .ok (.iload_n 1, 1) := by decide +kernel
theorem dX12_hasLog_8 : decode cX12_hasLog 8 = .ok (.invokevirtual 209, 3) := by decide +kernel
theorem dX12_hasLog_11 : decode cX12_hasLog 11 = .ok (.ireturn, 1) := by decide +kernel
theorem dX12_log_0 : decode cX12_log 0 = .ok (.aload_n 0, 1) := by decide +kernel
theorem dX12_log_1 : decode cX12_log 1 = .ok (.iconst 0, 1) := by decide +kernel
theorem dX12_log_2 : decode cX12_log 2 = .ok (.putfield 88, 3) := by decide +kernel
theorem dX12_log_5 : decode cX12_log 5 = .ok (.aload_n 0, 1) := by decide +kernel
theorem dX12_log_6 : decode cX12_log 6 = .ok (.iload_n 1, 1) := by decide +kernel
theorem dX12_log_7 : decode cX12_log 7 = .ok (.invokevirtual 447, 3) := by decide +kernel
theorem dX12_log_10 : decode cX12_log 10 = .ok (.ifCond .ne 5, 3) := by decide +kernel
theorem dX12_log_13 : decode cX12_log 13 = .ok (.iconst (-1), 1) := by decide +kernel
theorem dX12_log_14 : decode cX12_log 14 = .ok (.ireturn, 1) := by decide +kernel
theorem dX12_log_15 : decode cX12_log 15 = .ok (.iload_n 2, 1) := by decide +kernel
theorem dX12_log_16 : decode cX12_log 16 = .ok (.bipush 10, 2) := by decide +kernel
theorem dX12_log_18 : decode cX12_log 18 = .ok (.irem, 1) := by decide +kernel
theorem dX12_log_19 : decode cX12_log 19 = .ok (.istore_n 3, 1) := by decide +kernel
theorem dX12_log_20 : decode cX12_log 20 = .ok (.iload_n 2, 1) := by decide +kernel
theorem dX12_log_21 : decode cX12_log 21 = .ok (.bipush 10, 2) := by decide +kernel
theorem dX12_log_23 : decode cX12_log 23 = .ok (.if_icmp .ge 28, 3) := by decide +kernel
theorem dX12_log_26 : decode cX12_log 26 = .ok (.iload_n 2, 1) := by decide +kernel
theorem dX12_log_27 : decode cX12_log 27 = .ok (.ifCond .ne 10, 3) := by decide +kernel
theorem dX12_log_30 : decode cX12_log 30 = .ok (.aload_n 0, 1) := by decide +kernel
theorem dX12_log_31 : decode cX12_log 31 = .ok (.invokevirtual 450, 3) := by decide +kernel
theorem dX12_log_34 : decode cX12_log 34 = .ok (.goto 16, 3) := by decide +kernel
theorem dX12_log_37 : decode cX12_log 37 = .ok (.iload_n 2, 1) := by decide +kernel
theorem dX12_log_38 : decode cX12_log 38 = .ok (.iconst 1, 1) := by decide +kernel
theorem dX12_log_39 : decode cX12_log 39 = .ok (.if_icmp .ne 10, 3) := by decide +kernel
theorem dX12_log_42 : decode cX12_log 42 = .ok (.aload_n 0, 1) := by decide +kernel
theorem dX12_log_43 : decode cX12_log 43 = .ok (.invokevirtual 453, 3) := by decide +kernel
theorem dX12_log_46 : decode cX12_log 46 = .ok (.goto 4, 3) := by decide +kernel
theorem dX12_log_49 : decode cX12_log 49 = .ok (.iconst (-1), 1) := by decide +kernel
theorem dX12_log_50 : decode cX12_log 50 = .ok (.ireturn, 1) := by decide +kernel
theorem dX12_log_51 : decode cX12_log 51 = .ok (.iload_n 2, 1) := by decide +kernel
theorem dX12_log_52 : decode cX12_log 52 = .ok (.bipush 40, 2) := by decide +kernel
theorem dX12_log_54 : decode cX12_log 54 = .ok (.if_icmp .ge 25, 3) := by decide +kernel
theorem dX12_log_57 : decode cX12_log 57 = .ok (.iload_n 3, 1) := by decide +kernel
theorem dX12_log_58 : decode cX12_log 58 = .ok (.aload_n 0, 1) := by decide +kernel
theorem dX12_log_59 : decode cX12_log 59 = .ok (.invokevirtual 453, 3) := by decide +kernel
theorem dX12_log_62 : decode cX12_log 62 = .ok (.if_icmp .ge 17, 3) := by decide +kernel
theorem dX12_log_65 : decode cX12_log 65 = .ok (.aload_n 0, 1) := by decide +kernel
theorem dX12_log_66 : decode cX12_log 66 = .ok (.iload_n 3, 1) := by decide +kernel
theorem dX12_log_67 : decode cX12_log 67 = .ok (.iload_n 2, 1) := by decide +kernel
theorem dX12_log_68 : decode cX12_log 68 = .ok (.bipush 10, 2) := by decide +kernel
theorem dX12_log_70 : decode cX12_log 70 = .ok (.idiv, 1) := by decide +kernel
theorem dX12_log_71 : decode cX12_log 71 = .ok (.iconst 1, 1) := by decide +kernel
theorem dX12_log_72 : decode cX12_log 72 = .ok (.isub, 1) := by decide +kernel
theorem dX12_log_73 : decode cX12_log 73 = .ok (.invokevirtual 456, 3) := by decide +kernel
theorem dX12_log_76 : decode cX12_log 76 = .ok (.goto 4, 3) := by decide +kernel
theorem dX12_log_79 : decode cX12_log 79 = .ok (.iconst (-1), 1) := by decide +kernel
theorem dX12_log_80 : decode cX12_log 80 = .ok (.ireturn, 1) := by decide +kernel
theorem dX12_isSo_0 : decode cX12_isSo 0 = .ok (.iconst 0, 1) := by decide +kernel
theorem dX12_isSo_1 : decode cX12_isSo 1 = .ok (.istore_n 1, 1) := by decide +kernel
theorem dX12_isSo_2 : decode cX12_isSo 2 = .ok (.iload_n 1, 1) := by decide +kernel
theorem dX12_isSo_3 : decode cX12_isSo 3 = .ok (.aload_n 0, 1) := by decide +kernel
theorem dX12_isSo_4 : decode cX12_isSo 4 = .ok (.invokevirtual 453, 3) := by decide +kernel
theorem dX12_isSo_7 : decode cX12_isSo 7 = .ok (.if_icmp .ge 59, 3) := by decide +kernel
theorem dX12_isSo_10 : decode cX12_isSo 10 = .ok (.aload_n 0, 1) := by decide +kernel
theorem dX12_isSo_11 : decode cX12_isSo 11 = .ok (.iload_n 1, 1) := by decide +kernel
theorem dX12_isSo_12 : decode cX12_isSo 12 = .ok (.iconst 1, 1) := by decide +kernel
theorem dX12_isSo_13 : decode cX12_isSo 13 = .ok (.invokevirtual 456, 3) := by decide +kernel
theorem dX12_isSo_16 : decode cX12_isSo 16 = .ok (.istore_n 2, 1) := by decide +kernel
theorem dX12_isSo_17 : decode cX12_isSo 17 = .ok (.aload_n 0, 1) := by decide +kernel
theorem dX12_isSo_18 : decode cX12_isSo 18 = .ok (.iload_n 2, 1) := by decide +kernel
theorem dX12_isSo_19 : decode cX12_isSo 19 = .ok (.invokevirtual 244, 3) := by decide +kernel
theorem dX12_isSo_22 : decode cX12_isSo 22 = .ok (.ifCond .eq 36, 3) := by decide +kernel
theorem dX12_isSo_25 : decode cX12_isSo 25 = .ok (.aload_n 0, 1) := by decide +kernel
theorem dX12_isSo_26 : decode cX12_isSo 26 = .ok (.getfield 53, 3) := by decide +kernel
theorem dX12_isSo_29 : decode cX12_isSo 29 = .ok (.aload_n 0, 1) := by decide +kernel
theorem dX12_isSo_30 : decode cX12_isSo 30 = .ok (.iload_n 1, 1) := by decide +kernel
theorem dX12_isSo_31 : decode cX12_isSo 31 = .ok (.iconst 2, 1) := by decide +kernel
theorem dX12_isSo_32 : decode cX12_isSo 32 = .ok (.invokevirtual 456, 3) := by decide +kernel
theorem dX12_isSo_35 : decode cX12_isSo 35 = .ok (.iaload, 1) := by decide +kernel
theorem dX12_isSo_36 : decode cX12_isSo 36 = .ok (.iload_n 2, 1) := by decide +kernel
theorem dX12_isSo_37 : decode cX12_isSo 37 = .ok (.invokestatic 92, 3) := by decide +kernel
theorem dX12_isSo_40 : decode cX12_isSo 40 = .ok (.aload_n 0, 1) := by decide +kernel
theorem dX12_isSo_41 : decode cX12_isSo 41 = .ok (.iload_n 1, 1) := by decide +kernel
theorem dX12_isSo_42 : decode cX12_isSo 42 = .ok (.iconst 0, 1) := by decide +kernel
theorem dX12_isSo_43 : decode cX12_isSo 43 = .ok (.invokevirtual 456, 3) := by decide +kernel
theorem dX12_isSo_46 : decode cX12_isSo 46 = .ok (.iconst 1, 1) := by decide +kernel
theorem dX12_isSo_47 : decode cX12_isSo 47 = .ok (.if_icmp .ne 7, 3) := by decide +kernel
theorem dX12_isSo_50 : decode cX12_isSo 50 = .ok (.iconst 1, 1) := by decide +kernel
theorem dX12_isSo_51 : decode cX12_isSo 51 = .ok (.goto 4, 3) := by decide +kernel
theorem dX12_isSo_54 : decode cX12_isSo 54 = .ok (.iconst 0, 1) := by decide +kernel
theorem dX12_isSo_55 : decode cX12_isSo 55 = .ok (.if_icmp .eq 5, 3) := by decide +kernel
theorem dX12_isSo_58 : decode cX12_isSo 58 = .ok (.iconst 0, 1) := by decide +kernel
theorem dX12_isSo_59 : decode cX12_isSo 59 = .ok (.ireturn, 1) := by decide +kernel
theorem dX12_isSo_60 : decode cX12_isSo 60 = .ok (.iinc 1 1, 3) := by decide +kernel
theorem dX12_isSo_63 : decode cX12_isSo 63 = .ok (.goto (-61), 3) := by decide +kernel
theorem dX12_isSo_66 : decode cX12_isSo 66 = .ok (.iconst 1, 1) := by decide +kernel
theorem dX12_isSo_67 : decode cX12_isSo 67 = .ok (.ireturn, 1) := by decide +kernel
theorem dX12_fives_0 : decode cX12_fives 0 = .ok (.iconst 5, 1) := by decide +kernel
theorem dX12_fives_1 : decode cX12_fives 1 = .ok (.iload_n 1, 1) := by decide +kernel
theorem dX12_fives_2 : decode cX12_fives 2 = .ok (.invokestatic 437, 3) := by decide +kernel
theorem dX12_fives_5 : decode cX12_fives 5 = .ok (.ireturn, 1) := by decide +kernel
theorem dX12_runsAll_0 : decode cX12_runsAll 0 = .ok (.aload_n 0, 1) := by decide +kernel
theorem dX12_runsAll_1 : decode cX12_runsAll 1 = .ok (.invokevirtual 316, 3) := by decide +kernel
theorem dX12_runsAll_4 : decode cX12_runsAll 4 = .ok (.iconst 0, 1) := by decide +kernel
theorem dX12_runsAll_5 : decode cX12_runsAll 5 = .ok (.istore_n 2, 1) := by decide +kernel
theorem dX12_runsAll_6 : decode cX12_runsAll 6 = .ok (.iload_n 2, 1) := by decide +kernel
theorem dX12_runsAll_7 : decode cX12_runsAll 7 = .ok (.aload_n 0, 1) := by decide +kernel
theorem dX12_runsAll_8 : decode cX12_runsAll 8 = .ok (.invokevirtual 450, 3) := by decide +kernel
theorem dX12_runsAll_11 : decode cX12_runsAll 11 = .ok (.if_icmp .ge 44, 3) := by decide +kernel
theorem dX12_runsAll_14 : decode cX12_runsAll 14 = .ok (.iload_n 1, 1) := by decide +kernel
theorem dX12_runsAll_15 : decode cX12_runsAll 15 = .ok (.aload_n 0, 1) := by decide +kernel
theorem dX12_runsAll_16 : decode cX12_runsAll 16 = .ok (.aload_n 0, 1) := by decide +kernel
theorem dX12_runsAll_17 : decode cX12_runsAll 17 = .ok (.invokevirtual 450, 3) := by decide +kernel
theorem dX12_runsAll_20 : decode cX12_runsAll 20 = .ok (.iconst 1, 1) := by decide +kernel
theorem dX12_runsAll_21 : decode cX12_runsAll 21 = .ok (.isub, 1) := by decide +kernel
theorem dX12_runsAll_22 : decode cX12_runsAll 22 = .ok (.iload_n 2, 1) := by decide +kernel
theorem dX12_runsAll_23 : decode cX12_runsAll 23 = .ok (.isub, 1) := by decide +kernel
theorem dX12_runsAll_24 : decode cX12_runsAll 24 = .ok (.invokevirtual 459, 3) := by decide +kernel
theorem dX12_runsAll_27 : decode cX12_runsAll 27 = .ok (.idiv, 1) := by decide +kernel
theorem dX12_runsAll_28 : decode cX12_runsAll 28 = .ok (.iconst 5, 1) := by decide +kernel
theorem dX12_runsAll_29 : decode cX12_runsAll 29 = .ok (.irem, 1) := by decide +kernel
theorem dX12_runsAll_30 : decode cX12_runsAll 30 = .ok (.istore_n 3, 1) := by decide +kernel
theorem dX12_runsAll_31 : decode cX12_runsAll 31 = .ok (.aload_n 0, 1) := by decide +kernel
theorem dX12_runsAll_32 : decode cX12_runsAll 32 = .ok (.iload_n 3, 1) := by decide +kernel
theorem dX12_runsAll_33 : decode cX12_runsAll 33 = .ok (.invokevirtual 244, 3) := by decide +kernel
theorem dX12_runsAll_36 : decode cX12_runsAll 36 = .ok (.ifCond .eq 11, 3) := by decide +kernel
theorem dX12_runsAll_39 : decode cX12_runsAll 39 = .ok (.aload_n 0, 1) := by decide +kernel
theorem dX12_runsAll_40 : decode cX12_runsAll 40 = .ok (.iload_n 3, 1) := by decide +kernel
theorem dX12_runsAll_41 : decode cX12_runsAll 41 = .ok (.invokevirtual 292, 3) := by decide +kernel
theorem dX12_runsAll_44 : decode cX12_runsAll 44 = .ok (.ifCond .ne 5, 3) := by decide +kernel
theorem dX12_runsAll_47 : decode cX12_runsAll 47 = .ok (.iconst 0, 1) := by decide +kernel
theorem dX12_runsAll_48 : decode cX12_runsAll 48 = .ok (.ireturn, 1) := by decide +kernel
theorem dX12_runsAll_49 : decode cX12_runsAll 49 = .ok (.iinc 2 1, 3) := by decide +kernel
theorem dX12_runsAll_52 : decode cX12_runsAll 52 = .ok (.goto (-46), 3) := by decide +kernel
theorem dX12_runsAll_55 : decode cX12_runsAll 55 = .ok (.iconst 1, 1) := by decide +kernel
theorem dX12_runsAll_56 : decode cX12_runsAll 56 = .ok (.ireturn, 1) := by decide +kernel
theorem dX12_rowCode_0 : decode cX12_rowCode 0 = .ok (.iconst 1, 1) := by decide +kernel
theorem dX12_rowCode_1 : decode cX12_rowCode 1 = .ok (.istore_n 2, 1) := by decide +kernel
theorem dX12_rowCode_2 : decode cX12_rowCode 2 = .ok (.iconst 0, 1) := by decide +kernel
theorem dX12_rowCode_3 : decode cX12_rowCode 3 = .ok (.istore_n 3, 1) := by decide +kernel
theorem dX12_rowCode_4 : decode cX12_rowCode 4 = .ok (.iload_n 3, 1) := by decide +kernel
theorem dX12_rowCode_5 : decode cX12_rowCode 5 = .ok (.aload_n 0, 1) := by decide +kernel
theorem dX12_rowCode_6 : decode cX12_rowCode 6 = .ok (.invokevirtual 450, 3) := by decide +kernel
theorem dX12_rowCode_9 : decode cX12_rowCode 9 = .ok (.if_icmp .ge 31, 3) := by decide +kernel
theorem dX12_rowCode_12 : decode cX12_rowCode 12 = .ok (.bipush 10, 2) := by decide +kernel
theorem dX12_rowCode_14 : decode cX12_rowCode 14 = .ok (.iload_n 2, 1) := by decide +kernel
theorem dX12_rowCode_15 : decode cX12_rowCode 15 = .ok (.imul, 1) := by decide +kernel
theorem dX12_rowCode_16 : decode cX12_rowCode 16 = .ok (.iload_n 1, 1) := by decide +kernel
theorem dX12_rowCode_17 : decode cX12_rowCode 17 = .ok (.aload_n 0, 1) := by decide +kernel
theorem dX12_rowCode_18 : decode cX12_rowCode 18 = .ok (.aload_n 0, 1) := by decide +kernel
theorem dX12_rowCode_19 : decode cX12_rowCode 19 = .ok (.invokevirtual 450, 3) := by decide +kernel
theorem dX12_rowCode_22 : decode cX12_rowCode 22 = .ok (.iconst 1, 1) := by decide +kernel
theorem dX12_rowCode_23 : decode cX12_rowCode 23 = .ok (.isub, 1) := by decide +kernel
theorem dX12_rowCode_24 : decode cX12_rowCode 24 = .ok (.iload_n 3, 1) := by decide +kernel
theorem dX12_rowCode_25 : decode cX12_rowCode 25 = .ok (.isub, 1) := by decide +kernel
theorem dX12_rowCode_26 : decode cX12_rowCode 26 = .ok (.invokevirtual 459, 3) := by decide +kernel
theorem dX12_rowCode_29 : decode cX12_rowCode 29 = .ok (.idiv, 1) := by decide +kernel
theorem dX12_rowCode_30 : decode cX12_rowCode 30 = .ok (.iconst 5, 1) := by decide +kernel
theorem dX12_rowCode_31 : decode cX12_rowCode 31 = .ok (.irem, 1) := by decide +kernel
theorem dX12_rowCode_32 : decode cX12_rowCode 32 = .ok (.iadd, 1) := by decide +kernel
theorem dX12_rowCode_33 : decode cX12_rowCode 33 = .ok (.istore_n 2, 1) := by decide +kernel
theorem dX12_rowCode_34 : decode cX12_rowCode 34 = .ok (.iinc 3 1, 3) := by decide +kernel
theorem dX12_rowCode_37 : decode cX12_rowCode 37 = .ok (.goto (-33), 3) := by decide +kernel
theorem dX12_rowCode_40 : decode cX12_rowCode 40 = .ok (.iload_n 2, 1) := by decide +kernel
theorem dX12_rowCode_41 : decode cX12_rowCode 41 = .ok (.ireturn, 1) := by decide +kernel
theorem dX12_noteFit_0 : decode cX12_noteFit 0 = .ok (.aload_n 0, 1) := by decide +kernel
theorem dX12_noteFit_1 : decode cX12_noteFit 1 = .ok (.aload_n 0, 1) := by decide +kernel
theorem dX12_noteFit_2 : decode cX12_noteFit 2 = .ok (.getfield 462, 3) := by decide +kernel
theorem dX12_noteFit_5 : decode cX12_noteFit 5 = .ok (.iload_n 2, 1) := by decide +kernel
theorem dX12_noteFit_6 : decode cX12_noteFit 6 = .ok (.if_icmp .ne 11, 3) := by decide +kernel
theorem dX12_noteFit_9 : decode cX12_noteFit 9 = .ok (.aload_n 0, 1) := by decide +kernel
theorem dX12_noteFit_10 : decode cX12_noteFit 10 = .ok (.iload_n 1, 1) := by decide +kernel
theorem dX12_noteFit_11 : decode cX12_noteFit 11 = .ok (.invokevirtual 465, 3) := by decide +kernel
theorem dX12_noteFit_14 : decode cX12_noteFit 14 = .ok (.goto 7, 3) := by decide +kernel
theorem dX12_noteFit_17 : decode cX12_noteFit 17 = .ok (.aload_n 0, 1) := by decide +kernel
theorem dX12_noteFit_18 : decode cX12_noteFit 18 = .ok (.getfield 468, 3) := by decide +kernel
theorem dX12_noteFit_21 : decode cX12_noteFit 21 = .ok (.putfield 468, 3) := by decide +kernel
theorem dX12_noteFit_24 : decode cX12_noteFit 24 = .ok (.aload_n 0, 1) := by decide +kernel
theorem dX12_noteFit_25 : decode cX12_noteFit 25 = .ok (.aload_n 0, 1) := by decide +kernel
theorem dX12_noteFit_26 : decode cX12_noteFit 26 = .ok (.getfield 471, 3) := by decide +kernel
theorem dX12_noteFit_29 : decode cX12_noteFit 29 = .ok (.iload_n 3, 1) := by decide +kernel
theorem dX12_noteFit_30 : decode cX12_noteFit 30 = .ok (.invokestatic 162, 3) := by decide +kernel
theorem dX12_noteFit_33 : decode cX12_noteFit 33 = .ok (.putfield 471, 3) := by decide +kernel
theorem dX12_noteFit_36 : decode cX12_noteFit 36 = .ok (.aload_n 0, 1) := by decide +kernel
theorem dX12_noteFit_37 : decode cX12_noteFit 37 = .ok (.aload_n 0, 1) := by decide +kernel
theorem dX12_noteFit_38 : decode cX12_noteFit 38 = .ok (.getfield 474, 3) := by decide +kernel
theorem dX12_noteFit_41 : decode cX12_noteFit 41 = .ok (.iload_n 3, 1) := by decide +kernel
theorem dX12_noteFit_42 : decode cX12_noteFit 42 = .ok (.invokestatic 280, 3) := by decide +kernel
theorem dX12_noteFit_45 : decode cX12_noteFit 45 = .ok (.putfield 474, 3) := by decide +kernel
theorem dX12_noteFit_48 : decode cX12_noteFit 48 = .ok (.aload_n 0, 1) := by decide +kernel
theorem dX12_noteFit_49 : decode cX12_noteFit 49 = .ok (.aload_n 0, 1) := by decide +kernel
theorem dX12_noteFit_50 : decode cX12_noteFit 50 = .ok (.getfield 477, 3) := by decide +kernel
theorem dX12_noteFit_53 : decode cX12_noteFit 53 = .ok (.iload 4, 2) := by decide +kernel
theorem dX12_noteFit_55 : decode cX12_noteFit 55 = .ok (.invokestatic 280, 3) := by decide +kernel
theorem dX12_noteFit_58 : decode cX12_noteFit 58 = .ok (.putfield 477, 3) := by decide +kernel
theorem dX12_noteFit_61 : decode cX12_noteFit 61 = .ok (.aload_n 0, 1) := by decide +kernel
theorem dX12_noteFit_62 : decode cX12_noteFit 62 = .ok (.dup, 1) := by decide +kernel
theorem dX12_noteFit_63 : decode cX12_noteFit 63 = .ok (.getfield 462, 3) := by decide +kernel
theorem dX12_noteFit_66 : decode cX12_noteFit 66 = .ok (.iconst 1, 1) := by decide +kernel
theorem dX12_noteFit_67 : decode cX12_noteFit 67 = .ok (.iadd, 1) := by decide +kernel
theorem dX12_noteFit_68 : decode cX12_noteFit 68 = .ok (.putfield 462, 3) := by decide +kernel
theorem dX12_noteFit_71 : decode cX12_noteFit 71 = .ok (.iconst 0, 1) := by decide +kernel
theorem dX12_noteFit_72 : decode cX12_noteFit 72 = .ok (.istore 5, 2) := by decide +kernel
theorem dX12_noteFit_74 : decode cX12_noteFit 74 = .ok (.iload 5, 2) := by decide +kernel
theorem dX12_noteFit_76 : decode cX12_noteFit 76 = .ok (.aload_n 0, 1) := by decide +kernel
theorem dX12_noteFit_77 : decode cX12_noteFit 77 = .ok (.invokevirtual 450, 3) := by decide +kernel
theorem dX12_noteFit_80 : decode cX12_noteFit 80 = .ok (.if_icmp .ge 38, 3) := by decide +kernel
theorem dX12_noteFit_83 : decode cX12_noteFit 83 = .ok (.aload_n 0, 1) := by decide +kernel
theorem dX12_noteFit_84 : decode cX12_noteFit 84 = .ok (.getfield 78, 3) := by decide +kernel
theorem dX12_noteFit_87 : decode cX12_noteFit 87 = .ok (.iload 5, 2) := by decide +kernel
theorem dX12_noteFit_89 : decode cX12_noteFit 89 = .ok (.dup2, 1) := by decide +kernel
theorem dX12_noteFit_90 : decode cX12_noteFit 90 = .ok (.iaload, 1) := by decide +kernel
theorem dX12_noteFit_91 : decode cX12_noteFit 91 = .ok (.iconst 1, 1) := by decide +kernel
theorem dX12_noteFit_92 : decode cX12_noteFit 92 = .ok (.iload_n 1, 1) := by decide +kernel
theorem dX12_noteFit_93 : decode cX12_noteFit 93 = .ok (.aload_n 0, 1) := by decide +kernel
theorem dX12_noteFit_94 : decode cX12_noteFit 94 = .ok (.aload_n 0, 1) := by decide +kernel
theorem dX12_noteFit_95 : decode cX12_noteFit 95 = .ok (.invokevirtual 450, 3) := by decide +kernel
theorem dX12_noteFit_98 : decode cX12_noteFit 98 = .ok (.iconst 1, 1) := by decide +kernel
theorem dX12_noteFit_99 : decode cX12_noteFit 99 = .ok (.isub, 1) := by decide +kernel
theorem dX12_noteFit_100 : decode cX12_noteFit 100 = .ok (.iload 5, 2) := by decide +kernel
theorem dX12_noteFit_102 : decode cX12_noteFit 102 = .ok (.isub, 1) := by decide +kernel
theorem dX12_noteFit_103 : decode cX12_noteFit 103 = .ok (.invokevirtual 459, 3) := by decide +kernel
theorem dX12_noteFit_106 : decode cX12_noteFit 106 = .ok (.idiv, 1) := by decide +kernel
theorem dX12_noteFit_107 : decode cX12_noteFit 107 = .ok (.iconst 5, 1) := by decide +kernel
theorem dX12_noteFit_108 : decode cX12_noteFit 108 = .ok (.irem, 1) := by decide +kernel
theorem dX12_noteFit_109 : decode cX12_noteFit 109 = .ok (.ishl, 1) := by decide +kernel
theorem dX12_noteFit_110 : decode cX12_noteFit 110 = .ok (.ior, 1) := by decide +kernel
theorem dX12_noteFit_111 : decode cX12_noteFit 111 = .ok (.iastore, 1) := by decide +kernel
theorem dX12_noteFit_112 : decode cX12_noteFit 112 = .ok (.iinc 5 1, 3) := by decide +kernel
theorem dX12_noteFit_115 : decode cX12_noteFit 115 = .ok (.goto (-41), 3) := by decide +kernel
theorem dX12_noteFit_118 : decode cX12_noteFit 118 = .ok (.iconst 0, 1) := by decide +kernel
theorem dX12_noteFit_119 : decode cX12_noteFit 119 = .ok (.istore 5, 2) := by decide +kernel
theorem dX12_noteFit_121 : decode cX12_noteFit 121 = .ok (.iload 5, 2) := by decide +kernel
theorem dX12_noteFit_123 : decode cX12_noteFit 123 = .ok (.bipush 105, 2) := by decide +kernel
theorem dX12_noteFit_125 : decode cX12_noteFit 125 = .ok (.if_icmp .ge 43, 3) := by decide +kernel
theorem dX12_noteFit_128 : decode cX12_noteFit 128 = .ok (.aload_n 0, 1) := by decide +kernel
theorem dX12_noteFit_129 : decode cX12_noteFit 129 = .ok (.getfield 81, 3) := by decide +kernel
theorem dX12_noteFit_132 : decode cX12_noteFit 132 = .ok (.iload 5, 2) := by decide +kernel
theorem dX12_noteFit_134 : decode cX12_noteFit 134 = .ok (.dup2, 1) := by decide +kernel
theorem dX12_noteFit_135 : decode cX12_noteFit 135 = .ok (.iaload, 1) := by decide +kernel
theorem dX12_noteFit_136 : decode cX12_noteFit 136 = .ok (.aload_n 0, 1) := by decide +kernel
theorem dX12_noteFit_137 : decode cX12_noteFit 137 = .ok (.getfield 53, 3) := by decide +kernel
theorem dX12_noteFit_140 : decode cX12_noteFit 140 = .ok (.iload 5, 2) := by decide +kernel
theorem dX12_noteFit_142 : decode cX12_noteFit 142 = .ok (.iconst 5, 1) := by decide +kernel
theorem dX12_noteFit_143 : decode cX12_noteFit 143 = .ok (.idiv, 1) := by decide +kernel
theorem dX12_noteFit_144 : decode cX12_noteFit 144 = .ok (.iaload, 1) := by decide +kernel
theorem dX12_noteFit_145 : decode cX12_noteFit 145 = .ok (.iload 5, 2) := by decide +kernel
theorem dX12_noteFit_147 : decode cX12_noteFit 147 = .ok (.iconst 5, 1) := by decide +kernel
theorem dX12_noteFit_148 : decode cX12_noteFit 148 = .ok (.irem, 1) := by decide +kernel
theorem dX12_noteFit_149 : decode cX12_noteFit 149 = .ok (.invokestatic 92, 3) := by decide +kernel
theorem dX12_noteFit_152 : decode cX12_noteFit 152 = .ok (.ifCond .eq 7, 3) := by decide +kernel
theorem dX12_noteFit_155 : decode cX12_noteFit 155 = .ok (.iconst 1, 1) := by decide +kernel
theorem dX12_noteFit_156 : decode cX12_noteFit 156 = .ok (.goto 4, 3) := by decide +kernel
theorem dX12_noteFit_159 : decode cX12_noteFit 159 = .ok (.iconst 0, 1) := by decide +kernel
theorem dX12_noteFit_160 : decode cX12_noteFit 160 = .ok (.iadd, 1) := by decide +kernel
theorem dX12_noteFit_161 : decode cX12_noteFit 161 = .ok (.iastore, 1) := by decide +kernel
theorem dX12_noteFit_162 : decode cX12_noteFit 162 = .ok (.iinc 5 1, 3) := by decide +kernel
theorem dX12_noteFit_165 : decode cX12_noteFit 165 = .ok (.goto (-44), 3) := by decide +kernel
theorem dX12_noteFit_168 : decode cX12_noteFit 168 = .ok (.return_, 1) := by decide +kernel
theorem dX12_findRows_0 : decode cX12_findRows 0 = .ok (.aload_n 0, 1) := by decide +kernel
theorem dX12_findRows_1 : decode cX12_findRows 1 = .ok (.iconst 0, 1) := by decide +kernel
theorem dX12_findRows_2 : decode cX12_findRows 2 = .ok (.putfield 462, 3) := by decide +kernel
theorem dX12_findRows_5 : decode cX12_findRows 5 = .ok (.aload_n 0, 1) := by decide +kernel
theorem dX12_findRows_6 : decode cX12_findRows 6 = .ok (.bipush (-2), 2) := by decide +kernel
theorem dX12_findRows_8 : decode cX12_findRows 8 = .ok (.putfield 468, 3) := by decide +kernel
theorem dX12_findRows_11 : decode cX12_findRows 11 = .ok (.aload_n 0, 1) := by decide +kernel
theorem dX12_findRows_12 : decode cX12_findRows 12 = .ok (.ldc_w 358, 3) := by decide +kernel
theorem dX12_findRows_15 : decode cX12_findRows 15 = .ok (.putfield 471, 3) := by decide +kernel
theorem dX12_findRows_18 : decode cX12_findRows 18 = .ok (.aload_n 0, 1) := by decide +kernel
theorem dX12_findRows_19 : decode cX12_findRows 19 = .ok (.iconst (-1), 1) := by decide +kernel
theorem dX12_findRows_20 : decode cX12_findRows 20 = .ok (.putfield 474, 3) := by decide +kernel
theorem dX12_findRows_23 : decode cX12_findRows 23 = .ok (.aload_n 0, 1) := by decide +kernel
theorem dX12_findRows_24 : decode cX12_findRows 24 = .ok (.iconst (-1), 1) := by decide +kernel
theorem dX12_findRows_25 : decode cX12_findRows 25 = .ok (.putfield 477, 3) := by decide +kernel
theorem dX12_findRows_28 : decode cX12_findRows 28 = .ok (.iconst 0, 1) := by decide +kernel
theorem dX12_findRows_29 : decode cX12_findRows 29 = .ok (.istore_n 2, 1) := by decide +kernel
theorem dX12_findRows_30 : decode cX12_findRows 30 = .ok (.iload_n 2, 1) := by decide +kernel
theorem dX12_findRows_31 : decode cX12_findRows 31 = .ok (.iconst 4, 1) := by decide +kernel
theorem dX12_findRows_32 : decode cX12_findRows 32 = .ok (.if_icmp .ge 16, 3) := by decide +kernel
theorem dX12_findRows_35 : decode cX12_findRows 35 = .ok (.aload_n 0, 1) := by decide +kernel
theorem dX12_findRows_36 : decode cX12_findRows 36 = .ok (.getfield 78, 3) := by decide +kernel
theorem dX12_findRows_39 : decode cX12_findRows 39 = .ok (.iload_n 2, 1) := by decide +kernel
theorem dX12_findRows_40 : decode cX12_findRows 40 = .ok (.iconst 0, 1) := by decide +kernel
theorem dX12_findRows_41 : decode cX12_findRows 41 = .ok (.iastore, 1) := by decide +kernel
theorem dX12_findRows_42 : decode cX12_findRows 42 = .ok (.iinc 2 1, 3) := by decide +kernel
theorem dX12_findRows_45 : decode cX12_findRows 45 = .ok (.goto (-15), 3) := by decide +kernel
theorem dX12_findRows_48 : decode cX12_findRows 48 = .ok (.iconst 0, 1) := by decide +kernel
theorem dX12_findRows_49 : decode cX12_findRows 49 = .ok (.istore_n 2, 1) := by decide +kernel
theorem dX12_findRows_50 : decode cX12_findRows 50 = .ok (.iload_n 2, 1) := by decide +kernel
theorem dX12_findRows_51 : decode cX12_findRows 51 = .ok (.bipush 105, 2) := by decide +kernel
theorem dX12_findRows_53 : decode cX12_findRows 53 = .ok (.if_icmp .ge 16, 3) := by decide +kernel
theorem dX12_findRows_56 : decode cX12_findRows 56 = .ok (.aload_n 0, 1) := by decide +kernel
theorem dX12_findRows_57 : decode cX12_findRows 57 = .ok (.getfield 81, 3) := by decide +kernel
theorem dX12_findRows_60 : decode cX12_findRows 60 = .ok (.iload_n 2, 1) := by decide +kernel
theorem dX12_findRows_61 : decode cX12_findRows 61 = .ok (.iconst 0, 1) := by decide +kernel
theorem dX12_findRows_62 : decode cX12_findRows 62 = .ok (.iastore, 1) := by decide +kernel
theorem dX12_findRows_63 : decode cX12_findRows 63 = .ok (.iinc 2 1, 3) := by decide +kernel
theorem dX12_findRows_66 : decode cX12_findRows 66 = .ok (.goto (-16), 3) := by decide +kernel
theorem dX12_findRows_69 : decode cX12_findRows 69 = .ok (.iconst 0, 1) := by decide +kernel
theorem dX12_findRows_70 : decode cX12_findRows 70 = .ok (.istore_n 2, 1) := by decide +kernel
theorem dX12_findRows_71 : decode cX12_findRows 71 = .ok (.iload_n 2, 1) := by decide +kernel
theorem dX12_findRows_72 : decode cX12_findRows 72 = .ok (.aload_n 0, 1) := by decide +kernel
theorem dX12_findRows_73 : decode cX12_findRows 73 = .ok (.aload_n 0, 1) := by decide +kernel
theorem dX12_findRows_74 : decode cX12_findRows 74 = .ok (.invokevirtual 450, 3) := by decide +kernel
theorem dX12_findRows_77 : decode cX12_findRows 77 = .ok (.invokevirtual 459, 3) := by decide +kernel
theorem dX12_findRows_80 : decode cX12_findRows 80 = .ok (.if_icmp .ge 64, 3) := by decide +kernel
theorem dX12_findRows_83 : decode cX12_findRows 83 = .ok (.aload_n 0, 1) := by decide +kernel
theorem dX12_findRows_84 : decode cX12_findRows 84 = .ok (.iload_n 2, 1) := by decide +kernel
theorem dX12_findRows_85 : decode cX12_findRows 85 = .ok (.invokevirtual 480, 3) := by decide +kernel
theorem dX12_findRows_88 : decode cX12_findRows 88 = .ok (.ifCond .eq 50, 3) := by decide +kernel
theorem dX12_findRows_91 : decode cX12_findRows 91 = .ok (.aload_n 0, 1) := by decide +kernel
theorem dX12_findRows_92 : decode cX12_findRows 92 = .ok (.getfield 250, 3) := by decide +kernel
theorem dX12_findRows_95 : decode cX12_findRows 95 = .ok (.istore_n 3, 1) := by decide +kernel
theorem dX12_findRows_96 : decode cX12_findRows 96 = .ok (.aload_n 0, 1) := by decide +kernel
