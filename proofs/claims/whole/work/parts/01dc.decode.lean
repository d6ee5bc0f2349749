theorem dX8_waysFrom_33 : decode cX8_waysFrom 33 = .ok (.ireturn, 1) := by decide +kernel
theorem dX8_centre_0 : decode cX8_centre 0 = .ok (.iconst 0, 1) := by decide +kernel
theorem dX8_centre_1 : decode cX8_centre 1 = .ok (.istore_n 1, 1) := by decide +kernel
theorem dX8_centre_2 : decode cX8_centre 2 = .ok (.iconst 1, 1) := by decide +kernel
theorem dX8_centre_3 : decode cX8_centre 3 = .ok (.istore_n 2, 1) := by decide +kernel
theorem dX8_centre_4 : decode cX8_centre 4 = .ok (.iload_n 2, 1) := by decide +kernel
theorem dX8_centre_5 : decode cX8_centre 5 = .ok (.bipush 10, 2) := by decide +kernel
theorem dX8_centre_7 : decode cX8_centre 7 = .ok (.if_icmp .ge 24, 3) := by decide +kernel
theorem dX8_centre_10 : decode cX8_centre 10 = .ok (.aload_n 0, 1) := by decide +kernel
theorem dX8_centre_11 : decode cX8_centre 11 = .ok (.iload_n 2, 1) := by decide +kernel
theorem dX8_centre_12 : decode cX8_centre 12 = .ok (.invokevirtual 70, 3) := by decide +kernel
theorem dX8_centre_15 : decode cX8_centre 15 = .ok (.aload_n 0, 1) := by decide +kernel
theorem dX8_centre_16 : decode cX8_centre 16 = .ok (.iload_n 1, 1) := by decide +kernel
theorem dX8_centre_17 : decode cX8_centre 17 = .ok (.invokevirtual 70, 3) := by decide +kernel
theorem dX8_centre_20 : decode cX8_centre 20 = .ok (.if_icmp .ge 5, 3) := by decide +kernel
theorem dX8_centre_23 : decode cX8_centre 23 = .ok (.iload_n 2, 1) := by decide +kernel
theorem dX8_centre_24 : decode cX8_centre 24 = .ok (.istore_n 1, 1) := by decide +kernel
theorem dX8_centre_25 : decode cX8_centre 25 = .ok (.iinc 2 1, 3) := by decide +kernel
theorem dX8_centre_28 : decode cX8_centre 28 = .ok (.goto (-24), 3) := by decide +kernel
theorem dX8_centre_31 : decode cX8_centre 31 = .ok (.iload_n 1, 1) := by decide +kernel
theorem dX8_centre_32 : decode cX8_centre 32 = .ok (.ireturn, 1) := by decide +kernel
theorem dX8_falling_0 : decode cX8_falling 0 = .ok (.iconst 0, 1) := by decide +kernel
theorem dX8_falling_1 : decode cX8_falling 1 = .ok (.istore_n 2, 1) := by decide +kernel
theorem dX8_falling_2 : decode cX8_falling 2 = .ok (.iload_n 2, 1) := by decide +kernel
theorem dX8_falling_3 : decode cX8_falling 3 = .ok (.aload_n 0, 1) := by decide +kernel
theorem dX8_falling_4 : decode cX8_falling 4 = .ok (.getfield 18, 3) := by decide +kernel
theorem dX8_falling_7 : decode cX8_falling 7 = .ok (.if_icmp .ge 20, 3) := by decide +kernel
theorem dX8_falling_10 : decode cX8_falling 10 = .ok (.aload_n 0, 1) := by decide +kernel
theorem dX8_falling_11 : decode cX8_falling 11 = .ok (.iload_n 2, 1) := by decide +kernel
theorem dX8_falling_12 : decode cX8_falling 12 = .ok (.invokevirtual 73, 3) := by decide +kernel
theorem dX8_falling_15 : decode cX8_falling 15 = .ok (.iload_n 1, 1) := by decide +kernel
theorem dX8_falling_16 : decode cX8_falling 16 = .ok (.if_icmp .ne 5, 3) := by decide +kernel
theorem dX8_falling_19 : decode cX8_falling 19 = .ok (.iload_n 2, 1) := by decide +kernel
theorem dX8_falling_20 : decode cX8_falling 20 = .ok (.ireturn, 1) := by decide +kernel
theorem dX8_falling_21 : decode cX8_falling 21 = .ok (.iinc 2 1, 3) := by decide +kernel
theorem dX8_falling_24 : decode cX8_falling 24 = .ok (.goto (-22), 3) := by decide +kernel
theorem dX8_falling_27 : decode cX8_falling 27 = .ok (.iconst (-1), 1) := by decide +kernel
theorem dX8_falling_28 : decode cX8_falling 28 = .ok (.ireturn, 1) := by decide +kernel
theorem dX8_fallsBefore_0 : decode cX8_fallsBefore 0 = .ok (.iconst 0, 1) := by decide +kernel
theorem dX8_fallsBefore_1 : decode cX8_fallsBefore 1 = .ok (.istore_n 2, 1) := by decide +kernel
theorem dX8_fallsBefore_2 : decode cX8_fallsBefore 2 = .ok (.iconst 0, 1) := by decide +kernel
theorem dX8_fallsBefore_3 : decode cX8_fallsBefore 3 = .ok (.istore_n 3, 1) := by decide +kernel
theorem dX8_fallsBefore_4 : decode cX8_fallsBefore 4 = .ok (.iload_n 3, 1) := by decide +kernel
theorem dX8_fallsBefore_5 : decode cX8_fallsBefore 5 = .ok (.aload_n 0, 1) := by decide +kernel
theorem dX8_fallsBefore_6 : decode cX8_fallsBefore 6 = .ok (.getfield 18, 3) := by decide +kernel
theorem dX8_fallsBefore_9 : decode cX8_fallsBefore 9 = .ok (.if_icmp .ge 47, 3) := by decide +kernel
theorem dX8_fallsBefore_12 : decode cX8_fallsBefore 12 = .ok (.aload_n 0, 1) := by decide +kernel
theorem dX8_fallsBefore_13 : decode cX8_fallsBefore 13 = .ok (.getfield 28, 3) := by decide +kernel
theorem dX8_fallsBefore_16 : decode cX8_fallsBefore 16 = .ok (.iload_n 3, 1) := by decide +kernel
theorem dX8_fallsBefore_17 : decode cX8_fallsBefore 17 = .ok (.iaload, 1) := by decide +kernel
theorem dX8_fallsBefore_18 : decode cX8_fallsBefore 18 = .ok (.aload_n 0, 1) := by decide +kernel
theorem dX8_fallsBefore_19 : decode cX8_fallsBefore 19 = .ok (.getfield 28, 3) := by decide +kernel
theorem dX8_fallsBefore_22 : decode cX8_fallsBefore 22 = .ok (.iload_n 1, 1) := by decide +kernel
theorem dX8_fallsBefore_23 : decode cX8_fallsBefore 23 = .ok (.iaload, 1) := by decide +kernel
theorem dX8_fallsBefore_24 : decode cX8_fallsBefore 24 = .ok (.if_icmp .lt 23, 3) := by decide +kernel
theorem dX8_fallsBefore_27 : decode cX8_fallsBefore 27 = .ok (.aload_n 0, 1) := by decide +kernel
theorem dX8_fallsBefore_28 : decode cX8_fallsBefore 28 = .ok (.getfield 28, 3) := by decide +kernel
theorem dX8_fallsBefore_31 : decode cX8_fallsBefore 31 = .ok (.iload_n 3, 1) := by decide +kernel
theorem dX8_fallsBefore_32 : decode cX8_fallsBefore 32 = .ok (.iaload, 1) := by decide +kernel
theorem dX8_fallsBefore_33 : decode cX8_fallsBefore 33 = .ok (.aload_n 0, 1) := by decide +kernel
theorem dX8_fallsBefore_34 : decode cX8_fallsBefore 34 = .ok (.getfield 28, 3) := by decide +kernel
theorem dX8_fallsBefore_37 : decode cX8_fallsBefore 37 = .ok (.iload_n 1, 1) := by decide +kernel
theorem dX8_fallsBefore_38 : decode cX8_fallsBefore 38 = .ok (.iaload, 1) := by decide +kernel
theorem dX8_fallsBefore_39 : decode cX8_fallsBefore 39 = .ok (.if_icmp .ne 11, 3) := by decide +kernel
theorem dX8_fallsBefore_42 : decode cX8_fallsBefore 42 = .ok (.iload_n 3, 1) := by decide +kernel
theorem dX8_fallsBefore_43 : decode cX8_fallsBefore 43 = .ok (.iload_n 1, 1) := by decide +kernel
theorem dX8_fallsBefore_44 : decode cX8_fallsBefore 44 = .ok (.if_icmp .ge 6, 3) := by decide +kernel
theorem dX8_fallsBefore_47 : decode cX8_fallsBefore 47 = .ok (.iinc 2 1, 3) := by decide +kernel
theorem dX8_fallsBefore_50 : decode cX8_fallsBefore 50 = .ok (.iinc 3 1, 3) := by decide +kernel
theorem dX8_fallsBefore_53 : decode cX8_fallsBefore 53 = .ok (.goto (-49), 3) := by decide +kernel
theorem dX8_fallsBefore_56 : decode cX8_fallsBefore 56 = .ok (.iload_n 2, 1) := by decide +kernel
theorem dX8_fallsBefore_57 : decode cX8_fallsBefore 57 = .ok (.ireturn, 1) := by decide +kernel
theorem dX9_init_0 : decode cX9_init 0 = .ok (.aload_n 0, 1) := by decide +kernel
theorem dX9_init_1 : decode cX9_init 1 = .ok (.invokespecial 3, 3) := by decide +kernel
theorem dX9_init_4 : decode cX9_init 4 = .ok (.aload_n 0, 1) := by decide +kernel
theorem dX9_init_5 : decode cX9_init 5 = .ok (.sipush 600, 3) := by decide +kernel
theorem dX9_init_8 : decode cX9_init 8 = .ok (.newarray .byte, 2) := by decide +kernel
theorem dX9_init_10 : decode cX9_init 10 = .ok (.putfield 9, 3) := by decide +kernel
theorem dX9_init_13 : decode cX9_init 13 = .ok (.aload_n 0, 1) := by decide +kernel
theorem dX9_init_14 : decode cX9_init 14 = .ok (.iconst 0, 1) := by decide +kernel
theorem dX9_init_15 : decode cX9_init 15 = .ok (.putfield 15, 3) := by decide +kernel
theorem dX9_init_18 : decode cX9_init 18 = .ok (.aload_n 0, 1) := by decide +kernel
theorem dX9_init_19 : decode cX9_init 19 = .ok (.iconst 0, 1) := by decide +kernel
theorem dX9_init_20 : decode cX9_init 20 = .ok (.putfield 19, 3) := by decide +kernel
theorem dX9_init_23 : decode cX9_init 23 = .ok (.aload_n 0, 1) := by decide +kernel
theorem dX9_init_24 : decode cX9_init 24 = .ok (.iconst (-1), 1) := by decide +kernel
theorem dX9_init_25 : decode cX9_init 25 = .ok (.putfield 22, 3) := by decide +kernel
theorem dX9_init_28 : decode cX9_init 28 = .ok (.aload_n 0, 1) := by decide +kernel
theorem dX9_init_29 : decode cX9_init 29 = .ok (.iconst 3, 1) := by decide +kernel
theorem dX9_init_30 : decode cX9_init 30 = .ok (.newarray .int, 2) := by decide +kernel
theorem dX9_init_32 : decode cX9_init 32 = .ok (.putfield 25, 3) := by decide +kernel
theorem dX9_init_35 : decode cX9_init 35 = .ok (.aload_n 0, 1) := by decide +kernel
theorem dX9_init_36 : decode cX9_init 36 = .ok (.iconst 2, 1) := by decide +kernel
theorem dX9_init_37 : decode cX9_init 37 = .ok (.anewarray 29, 3) := by decide +kernel
theorem dX9_init_40 : decode cX9_init 40 = .ok (.putfield 31, 3) := by decide +kernel
theorem dX9_init_43 : decode cX9_init 43 = .ok (.aload_n 0, 1) := by decide +kernel
theorem dX9_init_44 : decode cX9_init 44 = .ok (.iconst 2, 1) := by decide +kernel
theorem dX9_init_45 : decode cX9_init 45 = .ok (.anewarray 35, 3) := by decide +kernel
theorem dX9_init_48 : decode cX9_init 48 = .ok (.putfield 37, 3) := by decide +kernel
theorem dX9_init_51 : decode cX9_init 51 = .ok (.aload_n 0, 1) := by decide +kernel
theorem dX9_init_52 : decode cX9_init 52 = .ok (.iconst 2, 1) := by decide +kernel
theorem dX9_init_53 : decode cX9_init 53 = .ok (.anewarray 41, 3) := by decide +kernel
theorem dX9_init_56 : decode cX9_init 56 = .ok (.putfield 43, 3) := by decide +kernel
theorem dX9_init_59 : decode cX9_init 59 = .ok (.iconst 0, 1) := by decide +kernel
theorem dX9_init_60 : decode cX9_init 60 = .ok (.istore_n 1, 1) := by decide +kernel
theorem dX9_init_61 : decode cX9_init 61 = .ok (.iload_n 1, 1) := by decide +kernel
theorem dX9_init_62 : decode cX9_init 62 = .ok (.iconst 2, 1) := by decide +kernel
theorem dX9_init_63 : decode cX9_init 63 = .ok (.if_icmp .ge 48, 3) := by decide +kernel
theorem dX9_init_66 : decode cX9_init 66 = .ok (.aload_n 0, 1) := by decide +kernel
theorem dX9_init_67 : decode cX9_init 67 = .ok (.getfield 31, 3) := by decide +kernel
theorem dX9_init_70 : decode cX9_init 70 = .ok (.iload_n 1, 1) := by decide +kernel
theorem dX9_init_71 : decode cX9_init 71 = .ok (.new 29, 3) := by decide +kernel
theorem dX9_init_74 : decode cX9_init 74 = .ok (.dup, 1) := by decide +kernel
theorem dX9_init_75 : decode cX9_init 75 = .ok (.invokespecial 47, 3) := by decide +kernel
theorem dX9_init_78 : decode cX9_init 78 = .ok (.aastore, 1) := by decide +kernel
theorem dX9_init_79 : decode cX9_init 79 = .ok (.aload_n 0, 1) := by decide +kernel
theorem dX9_init_80 : decode cX9_init 80 = .ok (.getfield 37, 3) := by decide +kernel
theorem dX9_init_83 : decode cX9_init 83 = .ok (.iload_n 1, 1) := by decide +kernel
theorem dX9_init_84 : decode cX9_init 84 = .ok (.new 35, 3) := by decide +kernel
theorem dX9_init_87 : decode cX9_init 87 = .ok (.dup, 1) := by decide +kernel
theorem dX9_init_88 : decode cX9_init 88 = .ok (.invokespecial 48, 3) := by decide +kernel
theorem dX9_init_91 : decode cX9_init 91 = .ok (.aastore, 1) := by decide +kernel
theorem dX9_init_92 : decode cX9_init 92 = .ok (.aload_n 0, 1) := by decide +kernel
theorem dX9_init_93 : decode cX9_init 93 = .ok (.getfield 43, 3) := by decide +kernel
theorem dX9_init_96 : decode cX9_init 96 = .ok (.iload_n 1, 1) := by decide +kernel
theorem dX9_init_97 : decode cX9_init 97 = .ok (.new 41, 3) := by decide +kernel
theorem dX9_init_100 : decode cX9_init 100 = .ok (.dup, 1) := by decide +kernel
theorem dX9_init_101 : decode cX9_init 101 = .ok (.invokespecial 49, 3) := by decide +kernel
theorem dX9_init_104 : decode cX9_init 104 = .ok (.aastore, 1) := by decide +kernel
theorem dX9_init_105 : decode cX9_init 105 = .ok (.iinc 1 1, 3) := by decide +kernel
theorem dX9_init_108 : decode cX9_init 108 = .ok (.goto (-47), 3) := by decide +kernel
theorem dX9_init_111 : decode cX9_init 111 = .ok (.return_, 1) := by decide +kernel
theorem dX9_addBytes_0 : decode cX9_addBytes 0 = .ok (.bipush 24, 2) := by decide +kernel
theorem dX9_addBytes_2 : decode cX9_addBytes 2 = .ok (.istore_n 2, 1) := by decide +kernel
theorem dX9_addBytes_3 : decode cX9_addBytes 3 = .ok (.iload_n 2, 1) := by decide +kernel
theorem dX9_addBytes_4 : decode cX9_addBytes 4 = .ok (.ifCond .lt 44, 3) := by decide +kernel
theorem dX9_addBytes_7 : decode cX9_addBytes 7 = .ok (.aload_n 0, 1) := by decide +kernel
theorem dX9_addBytes_8 : decode cX9_addBytes 8 = .ok (.getfield 15, 3) := by decide +kernel
theorem dX9_addBytes_11 : decode cX9_addBytes 11 = .ok (.aload_n 0, 1) := by decide +kernel
theorem dX9_addBytes_12 : decode cX9_addBytes 12 = .ok (.getfield 9, 3) := by decide +kernel
theorem dX9_addBytes_15 : decode cX9_addBytes 15 = .ok (.arraylength, 1) := by decide +kernel
theorem dX9_addBytes_16 : decode cX9_addBytes 16 = .ok (.if_icmp .ge 32, 3) := by decide +kernel
theorem dX9_addBytes_19 : decode cX9_addBytes 19 = .ok (.aload_n 0, 1) := by decide +kernel
theorem dX9_addBytes_20 : decode cX9_addBytes 20 = .ok (.getfield 9, 3) := by decide +kernel
theorem dX9_addBytes_23 : decode cX9_addBytes 23 = .ok (.aload_n 0, 1) := by decide +kernel
theorem dX9_addBytes_24 : decode cX9_addBytes 24 = .ok (.getfield 15, 3) := by decide +kernel
theorem dX9_addBytes_27 : decode cX9_addBytes 27 = .ok (.iload_n 1, 1) := by decide +kernel
theorem dX9_addBytes_28 : decode cX9_addBytes 28 = .ok (.iload_n 2, 1) := by decide +kernel
theorem dX9_addBytes_29 : decode cX9_addBytes 29 = .ok (.iushr, 1) := by decide +kernel
theorem dX9_addBytes_30 : decode cX9_addBytes 30 = .ok (.i2b, 1) := by decide +kernel
theorem dX9_addBytes_31 : decode cX9_addBytes 31 = .ok (.bastore, 1) := by decide +kernel
theorem dX9_addBytes_32 : decode cX9_addBytes 32 = .ok (.aload_n 0, 1) := by decide +kernel
theorem dX9_addBytes_33 : decode cX9_addBytes 33 = .ok (.dup, 1) := by decide +kernel
theorem dX9_addBytes_34 : decode cX9_addBytes 34 = .ok (.getfield 15, 3) := by decide +kernel
theorem dX9_addBytes_37 : decode cX9_addBytes 37 = .ok (.iconst 1, 1) := by decide +kernel
theorem dX9_addBytes_38 : decode cX9_addBytes 38 = .ok (.iadd, 1) := by decide +kernel
theorem dX9_addBytes_39 : decode cX9_addBytes 39 = .ok (.putfield 15, 3) := by decide +kernel
theorem dX9_addBytes_42 : decode cX9_addBytes 42 = .ok (.iinc 2 (-8), 3) := by decide +kernel
theorem dX9_addBytes_45 : decode cX9_addBytes 45 = .ok (.goto (-42), 3) := by decide +kernel
theorem dX9_addBytes_48 : decode cX9_addBytes 48 = .ok (.return_, 1) := by decide +kernel
theorem dX9_has_0 : decode cX9_has 0 = .ok (.iload_n 1, 1) := by decide +kernel
theorem dX9_has_1 : decode cX9_has 1 = .ok (.ifCond .lt 16, 3) := by decide +kernel
theorem dX9_has_4 : decode cX9_has 4 = .ok (.iload_n 1, 1) := by decide +kernel
theorem dX9_has_5 : decode cX9_has 5 = .ok (.aload_n 0, 1) := by decide +kernel
theorem dX9_has_6 : decode cX9_has 6 = .ok (.getfield 25, 3) := by decide +kernel
theorem dX9_has_9 : decode cX9_has 9 = .ok (.arraylength, 1) := by decide +kernel
theorem dX9_has_10 : decode cX9_has 10 = .ok (.if_icmp .ge 7, 3) := by decide +kernel
theorem dX9_has_13 : decode cX9_has 13 = .ok (.iconst 1, 1) := by decide +kernel
theorem dX9_has_14 : decode cX9_has 14 = .ok (.goto 4, 3) := by decide +kernel
theorem dX9_has_17 : decode cX9_has 17 = .ok (.iconst 0, 1) := by decide +kernel
theorem dX9_has_18 : decode cX9_has 18 = .ok (.ireturn, 1) := by decide +kernel
theorem dX9_stageAt_0 : decode cX9_stageAt 0 = .ok (.iload_n 1, 1) := by decide +kernel
theorem dX9_stageAt_1 : decode cX9_stageAt 1 = .ok (.ifCond .lt 31, 3) := by decide +kernel
theorem dX9_stageAt_4 : decode cX9_stageAt 4 = .ok (.iload_n 1, 1) := by decide +kernel
theorem dX9_stageAt_5 : decode cX9_stageAt 5 = .ok (.aload_n 0, 1) := by decide +kernel
theorem dX9_stageAt_6 : decode cX9_stageAt 6 = .ok (.getfield 25, 3) := by decide +kernel
theorem dX9_stageAt_9 : decode cX9_stageAt 9 = .ok (.iconst 0, 1) := by decide +kernel
theorem dX9_stageAt_10 : decode cX9_stageAt 10 = .ok (.iaload, 1) := by decide +kernel
theorem dX9_stageAt_11 : decode cX9_stageAt 11 = .ok (.if_icmp .ge 21, 3) := by decide +kernel
theorem dX9_stageAt_14 : decode cX9_stageAt 14 = .ok (.iload_n 1, 1) := by decide +kernel
theorem dX9_stageAt_15 : decode cX9_stageAt 15 = .ok (.aload_n 0, 1) := by decide +kernel
theorem dX9_stageAt_16 : decode cX9_stageAt 16 = .ok (.getfield 31, 3) := by decide +kernel
theorem dX9_stageAt_19 : decode cX9_stageAt 19 = .ok (.arraylength, 1) := by decide +kernel
theorem dX9_stageAt_20 : decode cX9_stageAt 20 = .ok (.if_icmp .ge 12, 3) := by decide +kernel
theorem dX9_stageAt_23 : decode cX9_stageAt 23 = .ok (.aload_n 0, 1) := by decide +kernel
theorem dX9_stageAt_24 : decode cX9_stageAt 24 = .ok (.getfield 31, 3) := by decide +kernel
theorem dX9_stageAt_27 : decode cX9_stageAt 27 = .ok (.iload_n 1, 1) := by decide +kernel
theorem dX9_stageAt_28 : decode cX9_stageAt 28 = .ok (.aaload, 1) := by decide +kernel
theorem dX9_stageAt_29 : decode cX9_stageAt 29 = .ok (.goto 4, 3) := by decide +kernel
theorem dX9_stageAt_32 : decode cX9_stageAt 32 = .ok (.aconst_null, 1) := by decide +kernel
theorem dX9_stageAt_33 : decode cX9_stageAt 33 = .ok (.areturn, 1) := by decide +kernel
theorem dX9_showAt_0 : decode cX9_showAt 0 = .ok (.iload_n 1, 1) := by decide +kernel
theorem dX9_showAt_1 : decode cX9_showAt 1 = .ok (.ifCond .lt 31, 3) := by decide +kernel
theorem dX9_showAt_4 : decode cX9_showAt 4 = .ok (.iload_n 1, 1) := by decide +kernel
theorem dX9_showAt_5 : decode cX9_showAt 5 = .ok (.aload_n 0, 1) := by decide +kernel
theorem dX9_showAt_6 : decode cX9_showAt 6 = .ok (.getfield 25, 3) := by decide +kernel
theorem dX9_showAt_9 : decode cX9_showAt 9 = .ok (.iconst 1, 1) := by decide +kernel
theorem dX9_showAt_10 : decode cX9_showAt 10 = .ok (.iaload, 1) := by decide +kernel
theorem dX9_showAt_11 : decode cX9_showAt 11 = .ok (.if_icmp .ge 21, 3) := by decide +kernel
theorem dX9_showAt_14 : decode cX9_showAt 14 = .ok (.iload_n 1, 1) := by decide +kernel
theorem dX9_showAt_15 : decode cX9_showAt 15 = .ok (.aload_n 0, 1) := by decide +kernel
theorem dX9_showAt_16 : decode cX9_showAt 16 = .ok (.getfield 37, 3) := by decide +kernel
theorem dX9_showAt_19 : decode cX9_showAt 19 = .ok (.arraylength, 1) := by decide +kernel
theorem dX9_showAt_20 : decode cX9_showAt 20 = .ok (.if_icmp .ge 12, 3) := by decide +kernel
theorem dX9_showAt_23 : decode cX9_showAt 23 = .ok (.aload_n 0, 1) := by decide +kernel
theorem dX9_showAt_24 : decode cX9_showAt 24 = .ok (.getfield 37, 3) := by decide +kernel
theorem dX9_showAt_27 : decode cX9_showAt 27 = .ok (.iload_n 1, 1) := by decide +kernel
theorem dX9_showAt_28 : decode cX9_showAt 28 = .ok (.aaload, 1) := by decide +kernel
theorem dX9_showAt_29 : decode cX9_showAt 29 = .ok (.goto 4, 3) := by decide +kernel
theorem dX9_showAt_32 : decode cX9_showAt 32 = .ok (.aconst_null, 1) := by decide +kernel
theorem dX9_showAt_33 : decode cX9_showAt 33 = .ok (.areturn, 1) := by decide +kernel
theorem dX9_logAt_0 : decode cX9_logAt 0 = .ok (.iload_n 1, 1) := by decide +kernel
theorem dX9_logAt_1 : decode cX9_logAt 1 = .ok (.ifCond .lt 31, 3) := by decide +kernel
theorem dX9_logAt_4 : decode cX9_logAt 4 = .ok (.iload_n 1, 1) := by decide +kernel
theorem dX9_logAt_5 : decode cX9_logAt 5 = .ok (.aload_n 0, 1) := by decide +kernel
theorem dX9_logAt_6 : decode cX9_logAt 6 = .ok (.getfield 25, 3) := by decide +kernel
theorem dX9_logAt_9 : decode cX9_logAt 9 = .ok (.iconst 2, 1) := by decide +kernel
theorem dX9_logAt_10 : decode cX9_logAt 10 = .ok (.iaload, 1) := by decide +kernel
theorem dX9_logAt_11 : decode cX9_logAt 11 = .ok (.if_icmp .ge 21, 3) := by decide +kernel
theorem dX9_logAt_14 : decode cX9_logAt 14 = .ok (.iload_n 1, 1) := by decide +kernel
theorem dX9_logAt_15 : decode cX9_logAt 15 = .ok (.aload_n 0, 1) := by decide +kernel
theorem dX9_logAt_16 : decode cX9_logAt 16 = .ok (.getfield 43, 3) := by decide +kernel
theorem dX9_logAt_19 : decode cX9_logAt 19 = .ok (.arraylength, 1) := by decide +kernel
theorem dX9_logAt_20 : decode cX9_logAt 20 = .ok (.if_icmp .ge 12, 3) := by decide +kernel
theorem dX9_logAt_23 : decode cX9_logAt 23 = .ok (.aload_n 0, 1) := by decide +kernel
theorem dX9_logAt_24 : decode cX9_logAt 24 = .ok (.getfield 43, 3) := by decide +kernel
theorem dX9_logAt_27 : decode cX9_logAt 27 = .ok (.iload_n 1, 1) := by decide +kernel
theorem dX9_logAt_28 : decode cX9_logAt 28 = .ok (.aaload, 1) := by decide +kernel
theorem dX9_logAt_29 : decode cX9_logAt 29 = .ok (.goto 4, 3) := by decide +kernel
theorem dX9_logAt_32 : decode cX9_logAt 32 = .ok (.aconst_null, 1) := by decide +kernel
theorem dX9_logAt_33 : decode cX9_logAt 33 = .ok (.areturn, 1) := by decide +kernel
theorem dX9_copyFrom_0 : decode cX9_copyFrom 0 = .ok (.aload_n 1, 1) := by decide +kernel
theorem dX9_copyFrom_1 : decode cX9_copyFrom 1 = .ok (.getfield 9, 3) := by decide +kernel
theorem dX9_copyFrom_4 : decode cX9_copyFrom 4 = .ok (.iconst 0, 1) := by decide +kernel
theorem dX9_copyFrom_5 : decode cX9_copyFrom 5 = .ok (.aload_n 0, 1) := by decide +kernel
theorem dX9_copyFrom_6 : decode cX9_copyFrom 6 = .ok (.getfield 9, 3) := by decide +kernel
theorem dX9_copyFrom_9 : decode cX9_copyFrom 9 = .ok (.iconst 0, 1) := by decide +kernel
theorem dX9_copyFrom_10 : decode cX9_copyFrom 10 = .ok (.sipush 600, 3) := by decide +kernel
theorem dX9_copyFrom_13 : decode cX9_copyFrom 13 = .ok (.invokestatic 50, 3) := by decide +kernel
theorem dX9_copyFrom_16 : decode cX9_copyFrom 16 = .ok (.aload_n 0, 1) := by decide +kernel
theorem dX9_copyFrom_17 : decode cX9_copyFrom 17 = .ok (.aload_n 1, 1) := by decide +kernel
theorem dX9_copyFrom_18 : decode cX9_copyFrom 18 = .ok (.getfield 15, 3) := by decide +kernel
theorem dX9_copyFrom_21 : decode cX9_copyFrom 21 = .ok (.putfield 15, 3) := by decide +kernel
theorem dX9_copyFrom_24 : decode cX9_copyFrom 24 = .ok (.aload_n 0, 1) := by decide +kernel
theorem dX9_copyFrom_25 : decode cX9_copyFrom 25 = .ok (.aload_n 1, 1) := by decide +kernel
theorem dX9_copyFrom_26 : decode cX9_copyFrom 26 = .ok (.getfield 19, 3) := by decide +kernel
theorem dX9_copyFrom_29 : decode cX9_copyFrom 29 = .ok (.putfield 19, 3) := by decide +kernel
theorem dX9_copyFrom_32 : decode cX9_copyFrom 32 = .ok (.aload_n 0, 1) := by decide +kernel
theorem dX9_copyFrom_33 : decode cX9_copyFrom 33 = .ok (.aload_n 1, 1) := by decide +kernel
theorem dX9_copyFrom_34 : decode cX9_copyFrom 34 = .ok (.getfield 22, 3) := by decide +kernel
theorem dX9_copyFrom_37 : decode cX9_copyFrom 37 = .ok (.putfield 22, 3) := by decide +kernel
theorem dX9_copyFrom_40 : decode cX9_copyFrom 40 = .ok (.aload_n 1, 1) := by decide +kernel
theorem dX9_copyFrom_41 : decode cX9_copyFrom 41 = .ok (.getfield 25, 3) := by decide +kernel
theorem dX9_copyFrom_44 : decode cX9_copyFrom 44 = .ok (.iconst 0, 1) := by decide +kernel
theorem dX9_copyFrom_45 : decode cX9_copyFrom 45 = .ok (.aload_n 0, 1) := by decide +kernel
theorem dX9_copyFrom_46 : decode cX9_copyFrom 46 = .ok (.getfield 25, 3) := by decide +kernel
theorem dX9_copyFrom_49 : decode cX9_copyFrom 49 = .ok (.iconst 0, 1) := by decide +kernel
theorem dX9_copyFrom_50 : decode cX9_copyFrom 50 = .ok (.iconst 3, 1) := by decide +kernel
theorem dX9_copyFrom_51 : decode cX9_copyFrom 51 = .ok (.invokestatic 50, 3) := by decide +kernel
theorem dX9_copyFrom_54 : decode cX9_copyFrom 54 = .ok (.iconst 0, 1) := by decide +kernel
theorem dX9_copyFrom_55 : decode cX9_copyFrom 55 = .ok (.istore_n 2, 1) := by decide +kernel
theorem dX9_copyFrom_56 : decode cX9_copyFrom 56 = .ok (.iload_n 2, 1) := by decide +kernel
theorem dX9_copyFrom_57 : decode cX9_copyFrom 57 = .ok (.iconst 2, 1) := by decide +kernel
theorem dX9_copyFrom_58 : decode cX9_copyFrom 58 = .ok (.if_icmp .ge 54, 3) := by decide +kernel
theorem dX9_copyFrom_61 : decode cX9_copyFrom 61 = .ok (.aload_n 0, 1) := by decide +kernel
theorem dX9_copyFrom_62 : decode cX9_copyFrom 62 = .ok (.getfield 31, 3) := by decide +kernel
theorem dX9_copyFrom_65 : decode cX9_copyFrom 65 = .ok (.iload_n 2, 1) := by decide +kernel
theorem dX9_copyFrom_66 : decode cX9_copyFrom 66 = .ok (.aaload, 1) := by decide +kernel
theorem dX9_copyFrom_67 : decode cX9_copyFrom 67 = .ok (.aload_n 1, 1) := by decide +kernel
theorem dX9_copyFrom_68 : decode cX9_copyFrom 68 = .ok (.getfield 31, 3) := by decide +kernel
theorem dX9_copyFrom_71 : decode cX9_copyFrom 71 = .ok (.iload_n 2, 1) := by decide +kernel
theorem dX9_copyFrom_72 : decode cX9_copyFrom 72 = .ok (.aaload, 1) := by decide +kernel
theorem dX9_copyFrom_73 : decode cX9_copyFrom 73 = .ok (.invokevirtual 56, 3) := by decide +kernel
theorem dX9_copyFrom_76 : decode cX9_copyFrom 76 = .ok (.aload_n 0, 1) := by decide +kernel
theorem dX9_copyFrom_77 : decode cX9_copyFrom 77 = .ok (.getfield 37, 3) := by decide +kernel
theorem dX9_copyFrom_80 : decode cX9_copyFrom 80 = .ok (.iload_n 2, 1) := by decide +kernel
theorem dX9_copyFrom_81 : decode cX9_copyFrom 81 = .ok (.aaload, 1) := by decide +kernel
theorem dX9_copyFrom_82 : decode cX9_copyFrom 82 = .ok (.aload_n 1, 1) := by decide +kernel
theorem dX9_copyFrom_83 : decode cX9_copyFrom 83 = .ok (.getfield 37, 3) := by decide +kernel
theorem dX9_copyFrom_86 : decode cX9_copyFrom 86 = .ok (.iload_n 2, 1) := by decide +kernel
theorem dX9_copyFrom_87 : decode cX9_copyFrom 87 = .ok (.aaload, 1) := by decide +kernel
theorem dX9_copyFrom_88 : decode cX9_copyFrom 88 = .ok (.invokevirtual 60, 3) := by decide +kernel
theorem dX9_copyFrom_91 : decode cX9_copyFrom 91 = .ok (.aload_n 0, 1) := by decide +kernel
theorem dX9_copyFrom_92 : decode cX9_copyFrom 92 = .ok (.getfield 43, 3) := by decide +kernel
theorem dX9_copyFrom_95 : decode cX9_copyFrom 95 = .ok (.iload_n 2, 1) := by decide +kernel
theorem dX9_copyFrom_96 : decode cX9_copyFrom 96 = .ok (.aaload, 1) := by decide +kernel
theorem dX9_copyFrom_97 : decode cX9_copyFrom 97 = .ok (.aload_n 1, 1) := by decide +kernel
theorem dX9_copyFrom_98 : decode cX9_copyFrom 98 = .ok (.getfield 43, 3) := by decide +kernel
theorem dX9_copyFrom_101 : decode cX9_copyFrom 101 = .ok (.iload_n 2, 1) := by decide +kernel
theorem dX9_copyFrom_102 : decode cX9_copyFrom 102 = .ok (.aaload, 1) := by decide +kernel
theorem dX9_copyFrom_103 : decode cX9_copyFrom 103 = .ok (.invokevirtual 63, 3) := by decide +kernel
theorem dX9_copyFrom_106 : decode cX9_copyFrom 106 = .ok (.iinc 2 1, 3) := by decide +kernel
theorem dX9_copyFrom_109 : decode cX9_copyFrom 109 = .ok (.goto (-53), 3) := by decide +kernel
theorem dX9_copyFrom_112 : decode cX9_copyFrom 112 = .ok (.return_, 1) := by decide +kernel
theorem dX10_init_0 : decode cX10_init 0 = .ok (.aload_n 0, 1) := by decide +kernel
theorem dX10_init_1 : decode cX10_init 1 = .ok (.invokespecial 3, 3) := by decide +kernel
theorem dX10_init_4 : decode cX10_init 4 = .ok (.aload_n 0, 1) := by decide +kernel
theorem dX10_init_5 : decode cX10_init 5 = .ok (.new 9, 3) := by decide +kernel
theorem dX10_init_8 : decode cX10_init 8 = .ok (.dup, 1) := by decide +kernel
theorem dX10_init_9 : decode cX10_init 9 = .ok (.invokespecial 11, 3) := by decide +kernel
theorem dX10_init_12 : decode cX10_init 12 = .ok (.putfield 12, 3) := by decide +kernel
theorem dX10_init_15 : decode cX10_init 15 = .ok (.aload_n 0, 1) := by decide +kernel
theorem dX10_init_16 : decode cX10_init 16 = .ok (.new 18, 3) := by decide +kernel
theorem dX10_init_19 : decode cX10_init 19 = .ok (.dup, 1) := by decide +kernel
theorem dX10_init_20 : decode cX10_init 20 = .ok (.invokespecial 20, 3) := by decide +kernel
theorem dX10_init_23 : decode cX10_init 23 = .ok (.putfield 21, 3) := by decide +kernel
theorem dX10_init_26 : decode cX10_init 26 = .ok (.return_, 1) := by decide +kernel
theorem dX10_areKept_0 : decode cX10_areKept 0 = .ok (.aload_n 0, 1) := by decide +kernel
theorem dX10_areKept_1 : decode cX10_areKept 1 = .ok (.getfield 21, 3) := by decide +kernel
theorem dX10_areKept_4 : decode cX10_areKept 4 = .ok (.aload_n 1, 1) := by decide +kernel
theorem dX10_areKept_5 : decode cX10_areKept 5 = .ok (.iload_n 2, 1) := by decide +kernel
theorem dX10_areKept_6 : decode cX10_areKept 6 = .ok (.invokevirtual 25, 3) := by decide +kernel
theorem dX10_areKept_9 : decode cX10_areKept 9 = .ok (.aload_n 0, 1) := by decide +kernel
theorem dX10_areKept_10 : decode cX10_areKept 10 = .ok (.getfield 12, 3) := by decide +kernel
theorem dX10_areKept_13 : decode cX10_areKept 13 = .ok (.aload_n 0, 1) := by decide +kernel
theorem dX10_areKept_14 : decode cX10_areKept 14 = .ok (.getfield 21, 3) := by decide +kernel
theorem dX10_areKept_17 : decode cX10_areKept 17 = .ok (.iconst 0, 1) := by decide +kernel
theorem dX10_areKept_18 : decode cX10_areKept 18 = .ok (.invokevirtual 29, 3) := by decide +kernel
theorem dX10_areKept_21 : decode cX10_areKept 21 = .ok (.ireturn, 1) := by decide +kernel
theorem dX10_leastSpeed_0 : decode cX10_leastSpeed 0 = .ok (.aload_n 0, 1) := by decide +kernel
theorem dX10_leastSpeed_1 : decode cX10_leastSpeed 1 = .ok (.getfield 21, 3) := by decide +kernel
theorem dX10_leastSpeed_4 : decode cX10_leastSpeed 4 = .ok (.aload_n 1, 1) := by decide +kernel
theorem dX10_leastSpeed_5 : decode cX10_leastSpeed 5 = .ok (.invokevirtual 33, 3) := by decide +kernel
theorem dX10_leastSpeed_8 : decode cX10_leastSpeed 8 = .ok (.iconst 1, 1) := by decide +kernel
theorem dX10_leastSpeed_9 : decode cX10_leastSpeed 9 = .ok (.istore_n 2, 1) := by decide +kernel
theorem dX10_leastSpeed_10 : decode cX10_leastSpeed 10 = .ok (.iload_n 2, 1) := by decide +kernel
theorem dX10_leastSpeed_11 : decode cX10_leastSpeed 11 = .ok (.bipush 9, 2) := by decide +kernel
theorem dX10_leastSpeed_13 : decode cX10_leastSpeed 13 = .ok (.if_icmp .gt 34, 3) := by decide +kernel
theorem dX10_leastSpeed_16 : decode cX10_leastSpeed 16 = .ok (.aload_n 0, 1) := by decide +kernel
theorem dX10_leastSpeed_17 : decode cX10_leastSpeed 17 = .ok (.getfield 21, 3) := by decide +kernel
theorem dX10_leastSpeed_20 : decode cX10_leastSpeed 20 = .ok (.iload_n 2, 1) := by decide +kernel
theorem dX10_leastSpeed_21 : decode cX10_leastSpeed 21 = .ok (.putfield 37, 3) := by decide +kernel
theorem dX10_leastSpeed_24 : decode cX10_leastSpeed 24 = .ok (.aload_n 0, 1) := by decide +kernel
theorem dX10_leastSpeed_25 : decode cX10_leastSpeed 25 = .ok (.getfield 12, 3) := by decide +kernel
theorem dX10_leastSpeed_28 : decode cX10_leastSpeed 28 = .ok (.aload_n 0, 1) := by decide +kernel
theorem dX10_leastSpeed_29 : decode cX10_leastSpeed 29 = .ok (.getfield 21, 3) := by decide +kernel
theorem dX10_leastSpeed_32 : decode cX10_leastSpeed 32 = .ok (.iconst 0, 1) := by decide +kernel
theorem dX10_leastSpeed_33 : decode cX10_leastSpeed 33 = .ok (.invokevirtual 29, 3) := by decide +kernel
theorem dX10_leastSpeed_36 : decode cX10_leastSpeed 36 = .ok (.ifCond .eq 5, 3) := by decide +kernel
theorem dX10_leastSpeed_39 : decode cX10_leastSpeed 39 = .ok (.iload_n 2, 1) := by decide +kernel
theorem dX10_leastSpeed_40 : decode cX10_leastSpeed 40 = .ok (.ireturn, 1) := by decide +kernel
theorem dX10_leastSpeed_41 : decode cX10_leastSpeed 41 = .ok (.iinc 2 1, 3) := by decide +kernel
theorem dX10_leastSpeed_44 : decode cX10_leastSpeed 44 = .ok (.goto (-34), 3) := by decide +kernel
theorem dX10_leastSpeed_47 : decode cX10_leastSpeed 47 = .ok (.iconst (-1), 1) := by decide +kernel
theorem dX10_leastSpeed_48 : decode cX10_leastSpeed 48 = .ok (.ireturn, 1) := by decide +kernel
theorem dX10_startPlaces_0 : decode cX10_startPlaces 0 = .ok (.aload_n 0, 1) := by decide +kernel
theorem dX10_startPlaces_1 : decode cX10_startPlaces 1 = .ok (.getfield 21, 3) := by decide +kernel
theorem dX10_startPlaces_4 : decode cX10_startPlaces 4 = .ok (.aload_n 1, 1) := by decide +kernel
theorem dX10_startPlaces_5 : decode cX10_startPlaces 5 = .ok (.invokevirtual 33, 3) := by decide +kernel
theorem dX10_startPlaces_8 : decode cX10_startPlaces 8 = .ok (.iconst 0, 1) := by decide +kernel
theorem dX10_startPlaces_9 : decode cX10_startPlaces 9 = .ok (.istore_n 2, 1) := by decide +kernel
theorem dX10_startPlaces_10 : decode cX10_startPlaces 10 = .ok (.iconst 0, 1) := by decide +kernel
theorem dX10_startPlaces_11 : decode cX10_startPlaces 11 = .ok (.istore_n 3, 1) := by decide +kernel
theorem dX10_startPlaces_12 : decode cX10_startPlaces 12 = .ok (.iload_n 3, 1) := by decide +kernel
theorem dX10_startPlaces_13 : decode cX10_startPlaces 13 = .ok (.bipush 10, 2) := by decide +kernel
theorem dX10_startPlaces_15 : decode cX10_startPlaces 15 = .ok (.if_icmp .ge 38, 3) := by decide +kernel
theorem dX10_startPlaces_18 : decode cX10_startPlaces 18 = .ok (.aload_n 0, 1) := by decide +kernel
theorem dX10_startPlaces_19 : decode cX10_startPlaces 19 = .ok (.getfield 21, 3) := by decide +kernel
theorem dX10_startPlaces_22 : decode cX10_startPlaces 22 = .ok (.iload_n 3, 1) := by decide +kernel
theorem dX10_startPlaces_23 : decode cX10_startPlaces 23 = .ok (.putfield 41, 3) := by decide +kernel
theorem dX10_startPlaces_26 : decode cX10_startPlaces 26 = .ok (.aload_n 0, 1) := by decide +kernel
theorem dX10_startPlaces_27 : decode cX10_startPlaces 27 = .ok (.getfield 12, 3) := by decide +kernel
theorem dX10_startPlaces_30 : decode cX10_startPlaces 30 = .ok (.aload_n 0, 1) := by decide +kernel
theorem dX10_startPlaces_31 : decode cX10_startPlaces 31 = .ok (.getfield 21, 3) := by decide +kernel
theorem dX10_startPlaces_34 : decode cX10_startPlaces 34 = .ok (.iconst 0, 1) := by decide +kernel
theorem dX10_startPlaces_35 : decode cX10_startPlaces 35 = .ok (.invokevirtual 29, 3) := by decide +kernel
theorem dX10_startPlaces_38 : decode cX10_startPlaces 38 = .ok (.ifCond .eq 9, 3) := by decide +kernel
theorem dX10_startPlaces_41 : decode cX10_startPlaces 41 = .ok (.iload_n 2, 1) := by decide +kernel
theorem dX10_startPlaces_42 : decode cX10_startPlaces 42 = .ok (.iconst 1, 1) := by decide +kernel
theorem dX10_startPlaces_43 : decode cX10_startPlaces 43 = .ok (.iload_n 3, 1) := by decide +kernel
theorem dX10_startPlaces_44 : decode cX10_startPlaces 44 = .ok (.ishl, 1) := by decide +kernel
theorem dX10_startPlaces_45 : decode cX10_startPlaces 45 = .ok (.ior, 1) := by decide +kernel
theorem dX10_startPlaces_46 : decode cX10_startPlaces 46 = .ok (.istore_n 2, 1) := by decide +kernel
theorem dX10_startPlaces_47 : decode cX10_startPlaces 47 = .ok (.iinc 3 1, 3) := by decide +kernel
theorem dX10_startPlaces_50 : decode cX10_startPlaces 50 = .ok (.goto (-38), 3) := by decide +kernel
theorem dX10_startPlaces_53 : decode cX10_startPlaces 53 = .ok (.iload_n 2, 1) := by decide +kernel
theorem dX10_startPlaces_54 : decode cX10_startPlaces 54 = .ok (.ireturn, 1) := by decide +kernel
theorem dX10_mostKept_0 : decode cX10_mostKept 0 = .ok (.aload_n 1, 1) := by decide +kernel
theorem dX10_mostKept_1 : decode cX10_mostKept 1 = .ok (.getfield 44, 3) := by decide +kernel
theorem dX10_mostKept_4 : decode cX10_mostKept 4 = .ok (.istore_n 2, 1) := by decide +kernel
theorem dX10_mostKept_5 : decode cX10_mostKept 5 = .ok (.iload_n 2, 1) := by decide +kernel
theorem dX10_mostKept_6 : decode cX10_mostKept 6 = .ok (.ifCond .le 46, 3) := by decide +kernel
theorem dX10_mostKept_9 : decode cX10_mostKept 9 = .ok (.iconst 1, 1) := by decide +kernel
theorem dX10_mostKept_10 : decode cX10_mostKept 10 = .ok (.istore_n 3, 1) := by decide +kernel
theorem dX10_mostKept_11 : decode cX10_mostKept 11 = .ok (.iload_n 3, 1) := by decide +kernel
theorem dX10_mostKept_12 : decode cX10_mostKept 12 = .ok (.iconst 1, 1) := by decide +kernel
theorem dX10_mostKept_13 : decode cX10_mostKept 13 = .ok (.aload_n 1, 1) := by decide +kernel
theorem dX10_mostKept_14 : decode cX10_mostKept 14 = .ok (.getfield 44, 3) := by decide +kernel
theorem dX10_mostKept_17 : decode cX10_mostKept 17 = .ok (.ishl, 1) := by decide +kernel
theorem dX10_mostKept_18 : decode cX10_mostKept 18 = .ok (.if_icmp .ge 28, 3) := by decide +kernel
theorem dX10_mostKept_21 : decode cX10_mostKept 21 = .ok (.iload_n 3, 1) := by decide +kernel
theorem dX10_mostKept_22 : decode cX10_mostKept 22 = .ok (.invokestatic 47, 3) := by decide +kernel
theorem dX10_mostKept_25 : decode cX10_mostKept 25 = .ok (.iload_n 2, 1) := by decide +kernel
theorem dX10_mostKept_26 : decode cX10_mostKept 26 = .ok (.if_icmp .ne 14, 3) := by decide +kernel
theorem dX10_mostKept_29 : decode cX10_mostKept 29 = .ok (.aload_n 0, 1) := by decide +kernel
theorem dX10_mostKept_30 : decode cX10_mostKept 30 = .ok (.aload_n 1, 1) := by decide +kernel
theorem dX10_mostKept_31 : decode cX10_mostKept 31 = .ok (.iload_n 3, 1) := by decide +kernel
theorem dX10_mostKept_32 : decode cX10_mostKept 32 = .ok (.invokevirtual 53, 3) := by decide +kernel
theorem dX10_mostKept_35 : decode cX10_mostKept 35 = .ok (.ifCond .eq 5, 3) := by decide +kernel
theorem dX10_mostKept_38 : decode cX10_mostKept 38 = .ok (.iload_n 3, 1) := by decide +kernel
theorem dX10_mostKept_39 : decode cX10_mostKept 39 = .ok (.ireturn, 1) := by decide +kernel
theorem dX10_mostKept_40 : decode cX10_mostKept 40 = .ok (.iinc 3 1, 3) := by decide +kernel
theorem dX10_mostKept_43 : decode cX10_mostKept 43 = .ok (.goto (-32), 3) := by decide +kernel
theorem dX10_mostKept_46 : decode cX10_mostKept 46 = .ok (.iinc 2 (-1), 3) := by decide +kernel
theorem dX10_mostKept_49 : decode cX10_mostKept 49 = .ok (.goto (-44), 3) := by decide +kernel
theorem dX10_mostKept_52 : decode cX10_mostKept 52 = .ok (.iconst 0, 1) := by decide +kernel
theorem dX10_mostKept_53 : decode cX10_mostKept 53 = .ok (.ireturn, 1) := by decide +kernel
theorem dX10_sparePlates_0 : decode cX10_sparePlates 0 = .ok (.iconst 1, 1) := by decide +kernel
theorem dX10_sparePlates_1 : decode cX10_sparePlates 1 = .ok (.aload_n 1, 1) := by decide +kernel
theorem dX10_sparePlates_2 : decode cX10_sparePlates 2 = .ok (.getfield 44, 3) := by decide +kernel
theorem dX10_sparePlates_5 : decode cX10_sparePlates 5 = .ok (.ishl, 1) := by decide +kernel
theorem dX10_sparePlates_6 : decode cX10_sparePlates 6 = .ok (.iconst 1, 1) := by decide +kernel
theorem dX10_sparePlates_7 : decode cX10_sparePlates 7 = .ok (.isub, 1) := by decide +kernel
theorem dX10_sparePlates_8 : decode cX10_sparePlates 8 = .ok (.istore_n 2, 1) := by decide +kernel
theorem dX10_sparePlates_9 : decode cX10_sparePlates 9 = .ok (.iconst 0, 1) := by decide +kernel
theorem dX10_sparePlates_10 : decode cX10_sparePlates 10 = .ok (.istore_n 3, 1) := by decide +kernel
theorem dX10_sparePlates_11 : decode cX10_sparePlates 11 = .ok (.iconst 0, 1) := by decide +kernel
theorem dX10_sparePlates_12 : decode cX10_sparePlates 12 = .ok (.istore 4, 2) := by decide +kernel
theorem dX10_sparePlates_14 : decode cX10_sparePlates 14 = .ok (.iload 4, 2) := by decide +kernel
theorem dX10_sparePlates_16 : decode cX10_sparePlates 16 = .ok (.aload_n 1, 1) := by decide +kernel
theorem dX10_sparePlates_17 : decode cX10_sparePlates 17 = .ok (.getfield 44, 3) := by decide +kernel
theorem dX10_sparePlates_20 : decode cX10_sparePlates 20 = .ok (.if_icmp .ge 32, 3) := by decide +kernel
theorem dX10_sparePlates_23 : decode cX10_sparePlates 23 = .ok (.aload_n 0, 1) := by decide +kernel
theorem dX10_sparePlates_24 : decode cX10_sparePlates 24 = .ok (.aload_n 1, 1) := by decide +kernel
theorem dX10_sparePlates_25 : decode cX10_sparePlates 25 = .ok (.iload_n 2, 1) := by decide +kernel
theorem dX10_sparePlates_26 : decode cX10_sparePlates 26 = .ok (.iconst 1, 1) := by decide +kernel
theorem dX10_sparePlates_27 : decode cX10_sparePlates 27 = .ok (.iload 4, 2) := by decide +kernel
theorem dX10_sparePlates_29 : decode cX10_sparePlates 29 = .ok (.ishl, 1) := by decide +kernel
theorem dX10_sparePlates_30 : decode cX10_sparePlates 30 = .ok (.iconst (-1), 1) := by decide +kernel
theorem dX10_sparePlates_31 : decode cX10_sparePlates 31 = .ok (.ixor, 1) := by decide +kernel
theorem dX10_sparePlates_32 : decode cX10_sparePlates 32 = .ok (.iand, 1) := by decide +kernel
theorem dX10_sparePlates_33 : decode cX10_sparePlates 33 = .ok (.invokevirtual 53, 3) := by decide +kernel
theorem dX10_sparePlates_36 : decode cX10_sparePlates 36 = .ok (.ifCond .eq 10, 3) := by decide +kernel
theorem dX10_sparePlates_39 : decode cX10_sparePlates 39 = .ok (.iload_n 3, 1) := by decide +kernel
theorem dX10_sparePlates_40 : decode cX10_sparePlates 40 = .ok (.iconst 1, 1) := by decide +kernel
theorem dX10_sparePlates_41 : decode cX10_sparePlates 41 = .ok (.iload 4, 2) := by decide +kernel
theorem dX10_sparePlates_43 : decode cX10_sparePlates 43 = .ok (.ishl, 1) := by decide +kernel
theorem dX10_sparePlates_44 : decode cX10_sparePlates 44 = .ok (.ior, 1) := by decide +kernel
theorem dX10_sparePlates_45 : decode cX10_sparePlates 45 = .ok (.istore_n 3, 1) := by decide +kernel
theorem dX10_sparePlates_46 : decode cX10_sparePlates 46 = .ok (.iinc 4 1, 3) := by decide +kernel
theorem dX10_sparePlates_49 : decode cX10_sparePlates 49 = .ok (.goto (-35), 3) := by decide +kernel
theorem dX10_sparePlates_52 : decode cX10_sparePlates 52 = .ok (.iload_n 3, 1) := by decide +kernel
theorem dX10_sparePlates_53 : decode cX10_sparePlates 53 = .ok (.ireturn, 1) := by decide +kernel
theorem dX10_leastLife_0 : decode cX10_leastLife 0 = .ok (.aload_n 1, 1) := by decide +kernel
theorem dX10_leastLife_1 : decode cX10_leastLife 1 = .ok (.iload_n 2, 1) := by decide +kernel
theorem dX10_leastLife_2 : decode cX10_leastLife 2 = .ok (.invokevirtual 57, 3) := by decide +kernel
theorem dX10_leastLife_5 : decode cX10_leastLife 5 = .ok (.ifCond .ne 5, 3) := by decide +kernel
theorem dX10_leastLife_8 : decode cX10_leastLife 8 = .ok (.iconst (-1), 1) := by decide +kernel
theorem dX10_leastLife_9 : decode cX10_leastLife 9 = .ok (.ireturn, 1) := by decide +kernel
theorem dX10_leastLife_10 : decode cX10_leastLife 10 = .ok (.aload_n 0, 1) := by decide +kernel
theorem dX10_leastLife_11 : decode cX10_leastLife 11 = .ok (.getfield 21, 3) := by decide +kernel
theorem dX10_leastLife_14 : decode cX10_leastLife 14 = .ok (.aload_n 1, 1) := by decide +kernel
theorem dX10_leastLife_15 : decode cX10_leastLife 15 = .ok (.invokevirtual 33, 3) := by decide +kernel
theorem dX10_leastLife_18 : decode cX10_leastLife 18 = .ok (.iconst 1, 1) := by decide +kernel
theorem dX10_leastLife_19 : decode cX10_leastLife 19 = .ok (.istore_n 3, 1) := by decide +kernel
theorem dX10_leastLife_20 : decode cX10_leastLife 20 = .ok (.iload_n 3, 1) := by decide +kernel
theorem dX10_leastLife_21 : decode cX10_leastLife 21 = .ok (.bipush 6, 2) := by decide +kernel
theorem dX10_leastLife_23 : decode cX10_leastLife 23 = .ok (.if_icmp .gt 55, 3) := by decide +kernel
theorem dX10_leastLife_26 : decode cX10_leastLife 26 = .ok (.aload_n 0, 1) := by decide +kernel
theorem dX10_leastLife_27 : decode cX10_leastLife 27 = .ok (.getfield 21, 3) := by decide +kernel
theorem dX10_leastLife_30 : decode cX10_leastLife 30 = .ok (.getfield 61, 3) := by decide +kernel
theorem dX10_leastLife_33 : decode cX10_leastLife 33 = .ok (.iload_n 2, 1) := by decide +kernel
theorem dX10_leastLife_34 : decode cX10_leastLife 34 = .ok (.iload_n 3, 1) := by decide +kernel
theorem dX10_leastLife_35 : decode cX10_leastLife 35 = .ok (.iastore, 1) := by decide +kernel
theorem dX10_leastLife_36 : decode cX10_leastLife 36 = .ok (.aload_n 0, 1) := by decide +kernel
theorem dX10_leastLife_37 : decode cX10_leastLife 37 = .ok (.getfield 21, 3) := by decide +kernel
theorem dX10_leastLife_40 : decode cX10_leastLife 40 = .ok (.getfield 65, 3) := by decide +kernel
theorem dX10_leastLife_43 : decode cX10_leastLife 43 = .ok (.iload_n 2, 1) := by decide +kernel
theorem dX10_leastLife_44 : decode cX10_leastLife 44 = .ok (.aload_n 1, 1) := by decide +kernel
theorem dX10_leastLife_45 : decode cX10_leastLife 45 = .ok (.getfield 65, 3) := by decide +kernel
theorem dX10_leastLife_48 : decode cX10_leastLife 48 = .ok (.iload_n 2, 1) := by decide +kernel
theorem dX10_leastLife_49 : decode cX10_leastLife 49 = .ok (.iaload, 1) := by decide +kernel
theorem dX10_leastLife_50 : decode cX10_leastLife 50 = .ok (.iload_n 3, 1) := by decide +kernel
theorem dX10_leastLife_51 : decode cX10_leastLife 51 = .ok (.invokestatic 68, 3) := by decide +kernel
theorem dX10_leastLife_54 : decode cX10_leastLife 54 = .ok (.iastore, 1) := by decide +kernel
theorem dX10_leastLife_55 : decode cX10_leastLife 55 = .ok (.aload_n 0, 1) := by decide +kernel
theorem dX10_leastLife_56 : decode cX10_leastLife 56 = .ok (.getfield 12, 3) := by decide +kernel
theorem dX10_leastLife_59 : decode cX10_leastLife 59 = .ok (.aload_n 0, 1) := by decide +kernel
theorem dX10_leastLife_60 : decode cX10_leastLife 60 = .ok (.getfield 21, 3) := by decide +kernel
theorem dX10_leastLife_63 : decode cX10_leastLife 63 = .ok (.iconst 0, 1) := by decide +kernel
theorem dX10_leastLife_64 : decode cX10_leastLife 64 = .ok (.invokevirtual 29, 3) := by decide +kernel
theorem dX10_leastLife_67 : decode cX10_leastLife 67 = .ok (.ifCond .eq 5, 3) := by decide +kernel
theorem dX10_leastLife_70 : decode cX10_leastLife 70 = .ok (.iload_n 3, 1) := by decide +kernel
theorem dX10_leastLife_71 : decode cX10_leastLife 71 = .ok (.ireturn, 1) := by decide +kernel
theorem dX10_leastLife_72 : decode cX10_leastLife 72 = .ok (.iinc 3 1, 3) := by decide +kernel
theorem dX10_leastLife_75 : decode cX10_leastLife 75 = .ok (.goto (-55), 3) := by decide +kernel
theorem dX10_leastLife_78 : decode cX10_leastLife 78 = .ok (.iconst (-1), 1) := by decide +kernel
theorem dX10_leastLife_79 : decode cX10_leastLife 79 = .ok (.ireturn, 1) := by decide +kernel
theorem dX10_movePlaces_0 : decode cX10_movePlaces 0 = .ok (.aload_n 1, 1) := by decide +kernel
theorem dX10_movePlaces_1 : decode cX10_movePlaces 1 = .ok (.iload_n 2, 1) := by decide +kernel
theorem dX10_movePlaces_2 : decode cX10_movePlaces 2 = .ok (.invokevirtual 57, 3) := by decide +kernel
theorem dX10_movePlaces_5 : decode cX10_movePlaces 5 = .ok (.ifCond .ne 5, 3) := by decide +kernel
theorem dX10_movePlaces_8 : decode cX10_movePlaces 8 = .ok (.iconst 0, 1) := by decide +kernel
theorem dX10_movePlaces_9 : decode cX10_movePlaces 9 = .ok (.ireturn, 1) := by decide +kernel
theorem dX10_movePlaces_10 : decode cX10_movePlaces 10 = .ok (.aload_n 0, 1) := by decide +kernel
theorem dX10_movePlaces_11 : decode cX10_movePlaces 11 = .ok (.getfield 21, 3) := by decide +kernel
theorem dX10_movePlaces_14 : decode cX10_movePlaces 14 = .ok (.aload_n 1, 1) := by decide +kernel
theorem dX10_movePlaces_15 : decode cX10_movePlaces 15 = .ok (.invokevirtual 33, 3) := by decide +kernel
theorem dX10_movePlaces_18 : decode cX10_movePlaces 18 = .ok (.iconst 0, 1) := by decide +kernel
theorem dX10_movePlaces_19 : decode cX10_movePlaces 19 = .ok (.istore_n 3, 1) := by decide +kernel
theorem dX10_movePlaces_20 : decode cX10_movePlaces 20 = .ok (.iconst 0, 1) := by decide +kernel
theorem dX10_movePlaces_21 : decode cX10_movePlaces 21 = .ok (.istore 4, 2) := by decide +kernel
theorem dX10_movePlaces_23 : decode cX10_movePlaces 23 = .ok (.iload 4, 2) := by decide +kernel
theorem dX10_movePlaces_25 : decode cX10_movePlaces 25 = .ok (.bipush 10, 2) := by decide +kernel
theorem dX10_movePlaces_27 : decode cX10_movePlaces 27 = .ok (.if_icmp .ge 42, 3) := by decide +kernel
theorem dX10_movePlaces_30 : decode cX10_movePlaces 30 = .ok (.aload_n 0, 1) := by decide +kernel
theorem dX10_movePlaces_31 : decode cX10_movePlaces 31 = .ok (.getfield 21, 3) := by decide +kernel
theorem dX10_movePlaces_34 : decode cX10_movePlaces 34 = .ok (.getfield 74, 3) := by decide +kernel
theorem dX10_movePlaces_37 : decode cX10_movePlaces 37 = .ok (.iload_n 2, 1) := by decide +kernel
theorem dX10_movePlaces_38 : decode cX10_movePlaces 38 = .ok (.iload 4, 2) := by decide +kernel
theorem dX10_movePlaces_40 : decode cX10_movePlaces 40 = .ok (.iastore, 1) := by decide +kernel
theorem dX10_movePlaces_41 : decode cX10_movePlaces 41 = .ok (.aload_n 0, 1) := by decide +kernel
theorem dX10_movePlaces_42 : decode cX10_movePlaces 42 = .ok (.getfield 12, 3) := by decide +kernel
theorem dX10_movePlaces_45 : decode cX10_movePlaces 45 = .ok (.aload_n 0, 1) := by decide +kernel
theorem dX10_movePlaces_46 : decode cX10_movePlaces 46 = .ok (.getfield 21, 3) := by decide +kernel
theorem dX10_movePlaces_49 : decode cX10_movePlaces 49 = .ok (.iconst 0, 1) := by decide +kernel
theorem dX10_movePlaces_50 : decode cX10_movePlaces 50 = .ok (.invokevirtual 29, 3) := by decide +kernel
theorem dX10_movePlaces_53 : decode cX10_movePlaces 53 = .ok (.ifCond .eq 10, 3) := by decide +kernel
theorem dX10_movePlaces_56 : decode cX10_movePlaces 56 = .ok (.iload_n 3, 1) := by decide +kernel
theorem dX10_movePlaces_57 : decode cX10_movePlaces 57 = .ok (.iconst 1, 1) := by decide +kernel
theorem dX10_movePlaces_58 : decode cX10_movePlaces 58 = .ok (.iload 4, 2) := by decide +kernel
theorem dX10_movePlaces_60 : decode cX10_movePlaces 60 = .ok (.ishl, 1) := by decide +kernel
theorem dX10_movePlaces_61 : decode cX10_movePlaces 61 = .ok (.ior, 1) := by decide +kernel
theorem dX10_movePlaces_62 : decode cX10_movePlaces 62 = .ok (.istore_n 3, 1) := by decide +kernel
theorem dX10_movePlaces_63 : decode cX10_movePlaces 63 = .ok (.iinc 4 1, 3) := by decide +kernel
theorem dX10_movePlaces_66 : decode cX10_movePlaces 66 = .ok (.goto (-43), 3) := by decide +kernel
theorem dX10_movePlaces_69 : decode cX10_movePlaces 69 = .ok (.iload_n 3, 1) := by decide +kernel
theorem dX10_movePlaces_70 : decode cX10_movePlaces 70 = .ok (.ireturn, 1) := by decide +kernel
theorem dX10_alonePlates_0 : decode cX10_alonePlates 0 = .ok (.iconst 0, 1) := by decide +kernel
theorem dX10_alonePlates_1 : decode cX10_alonePlates 1 = .ok (.istore_n 2, 1) := by decide +kernel
theorem dX10_alonePlates_2 : decode cX10_alonePlates 2 = .ok (.iconst 0, 1) := by decide +kernel
theorem dX10_alonePlates_3 : decode cX10_alonePlates 3 = .ok (.istore_n 3, 1) := by decide +kernel
theorem dX10_alonePlates_4 : decode cX10_alonePlates 4 = .ok (.iload_n 3, 1) := by decide +kernel
theorem dX10_alonePlates_5 : decode cX10_alonePlates 5 = .ok (.aload_n 1, 1) := by decide +kernel
theorem dX10_alonePlates_6 : decode cX10_alonePlates 6 = .ok (.getfield 44, 3) := by decide +kernel
theorem dX10_alonePlates_9 : decode cX10_alonePlates 9 = .ok (.if_icmp .ge 26, 3) := by decide +kernel
theorem dX10_alonePlates_12 : decode cX10_alonePlates 12 = .ok (.aload_n 0, 1) := by decide +kernel
theorem dX10_alonePlates_13 : decode cX10_alonePlates 13 = .ok (.aload_n 1, 1) := by decide +kernel
theorem dX10_alonePlates_14 : decode cX10_alonePlates 14 = .ok (.iconst 1, 1) := by decide +kernel
theorem dX10_alonePlates_15 : decode cX10_alonePlates 15 = .ok (.iload_n 3, 1) := by decide +kernel
theorem dX10_alonePlates_16 : decode cX10_alonePlates 16 = .ok (.ishl, 1) := by decide +kernel
theorem dX10_alonePlates_17 : decode cX10_alonePlates 17 = .ok (.invokevirtual 53, 3) := by decide +kernel
theorem dX10_alonePlates_20 : decode cX10_alonePlates 20 = .ok (.ifCond .eq 9, 3) := by decide +kernel
theorem dX10_alonePlates_23 : decode cX10_alonePlates 23 = .ok (.iload_n 2, 1) := by decide +kernel
theorem dX10_alonePlates_24 : decode cX10_alonePlates 24 = .ok (.iconst 1, 1) := by decide +kernel
theorem dX10_alonePlates_25 : decode cX10_alonePlates 25 = .ok (.iload_n 3, 1) := by decide +kernel
theorem dX10_alonePlates_26 : decode cX10_alonePlates 26 = .ok (.ishl, 1) := by decide +kernel
theorem dX10_alonePlates_27 : decode cX10_alonePlates 27 = .ok (.ior, 1) := by decide +kernel
theorem dX10_alonePlates_28 : decode cX10_alonePlates 28 = .ok (.istore_n 2, 1) := by decide +kernel
theorem dX10_alonePlates_29 : decode cX10_alonePlates 29 = .ok (.iinc 3 1, 3) := by decide +kernel
theorem dX10_alonePlates_32 : decode cX10_alonePlates 32 = .ok (.goto (-28), 3) := by decide +kernel
theorem dX10_alonePlates_35 : decode cX10_alonePlates 35 = .ok (.iload_n 2, 1) := by decide +kernel
theorem dX10_alonePlates_36 : decode cX10_alonePlates 36 = .ok (.ireturn, 1) := by decide +kernel
theorem dX10_couplesAlone_0 : decode cX10_couplesAlone 0 = .ok (.iconst 0, 1) := by decide +kernel
theorem dX10_couplesAlone_1 : decode cX10_couplesAlone 1 = .ok (.istore_n 2, 1) := by decide +kernel
theorem dX10_couplesAlone_2 : decode cX10_couplesAlone 2 = .ok (.iconst 0, 1) := by decide +kernel
theorem dX10_couplesAlone_3 : decode cX10_couplesAlone 3 = .ok (.istore_n 3, 1) := by decide +kernel
theorem dX10_couplesAlone_4 : decode cX10_couplesAlone 4 = .ok (.iload_n 3, 1) := by decide +kernel
theorem dX10_couplesAlone_5 : decode cX10_couplesAlone 5 = .ok (.aload_n 1, 1) := by decide +kernel
theorem dX10_couplesAlone_6 : decode cX10_couplesAlone 6 = .ok (.getfield 44, 3) := by decide +kernel
theorem dX10_couplesAlone_9 : decode cX10_couplesAlone 9 = .ok (.if_icmp .ge 48, 3) := by decide +kernel
theorem dX10_couplesAlone_12 : decode cX10_couplesAlone 12 = .ok (.iload_n 3, 1) := by decide +kernel
theorem dX10_couplesAlone_13 : decode cX10_couplesAlone 13 = .ok (.iconst 1, 1) := by decide +kernel
theorem dX10_couplesAlone_14 : decode cX10_couplesAlone 14 = .ok (.iadd, 1) := by decide +kernel
theorem dX10_couplesAlone_15 : decode cX10_couplesAlone 15 = .ok (.istore 4, 2) := by decide +kernel
theorem dX10_couplesAlone_17 : decode cX10_couplesAlone 17 = .ok (.iload 4, 2) := by decide +kernel
theorem dX10_couplesAlone_19 : decode cX10_couplesAlone 19 = .ok (.aload_n 1, 1) := by decide +kernel
theorem dX10_couplesAlone_20 : decode cX10_couplesAlone 20 = .ok (.getfield 44, 3) := by decide +kernel
theorem dX10_couplesAlone_23 : decode cX10_couplesAlone 23 = .ok (.if_icmp .ge 28, 3) := by decide +kernel
theorem dX10_couplesAlone_26 : decode cX10_couplesAlone 26 = .ok (.aload_n 0, 1) := by decide +kernel
theorem dX10_couplesAlone_27 : decode cX10_couplesAlone 27 = .ok (.aload_n 1, 1) := by decide +kernel
theorem dX10_couplesAlone_28 : decode cX10_couplesAlone 28 = .ok (.iconst 1, 1) := by decide +kernel
theorem dX10_couplesAlone_29 : decode cX10_couplesAlone 29 = .ok (.iload_n 3, 1) := by decide +kernel
theorem dX10_couplesAlone_30 : decode cX10_couplesAlone 30 = .ok (.ishl, 1) := by decide +kernel
theorem dX10_couplesAlone_31 : decode cX10_couplesAlone 31 = .ok (.iconst 1, 1) := by decide +kernel
theorem dX10_couplesAlone_32 : decode cX10_couplesAlone 32 = .ok (.iload 4, 2) := by decide +kernel
theorem dX10_couplesAlone_34 : decode cX10_couplesAlone 34 = .ok (.ishl, 1) := by decide +kernel
theorem dX10_couplesAlone_35 : decode cX10_couplesAlone 35 = .ok (.ior, 1) := by decide +kernel
theorem dX10_couplesAlone_36 : decode cX10_couplesAlone 36 = .ok (.invokevirtual 53, 3) := by decide +kernel
theorem dX10_couplesAlone_39 : decode cX10_couplesAlone 39 = .ok (.ifCond .eq 6, 3) := by decide +kernel
theorem dX10_couplesAlone_42 : decode cX10_couplesAlone 42 = .ok (.iinc 2 1, 3) := by decide +kernel
theorem dX10_couplesAlone_45 : decode cX10_couplesAlone 45 = .ok (.iinc 4 1, 3) := by decide +kernel
theorem dX10_couplesAlone_48 : decode cX10_couplesAlone 48 = .ok (.goto (-31), 3) := by decide +kernel
theorem dX10_couplesAlone_51 : decode cX10_couplesAlone 51 = .ok (.iinc 3 1, 3) := by decide +kernel
theorem dX10_couplesAlone_54 : decode cX10_couplesAlone 54 = .ok (.goto (-50), 3) := by decide +kernel
theorem dX10_couplesAlone_57 : decode cX10_couplesAlone 57 = .ok (.iload_n 2, 1) := by decide +kernel
theorem dX10_couplesAlone_58 : decode cX10_couplesAlone 58 = .ok (.ireturn, 1) := by decide +kernel
theorem dX10_bestSwap_0 : decode cX10_bestSwap 0 = .ok (.aload_n 0, 1) := by decide +kernel
theorem dX10_bestSwap_1 : decode cX10_bestSwap 1 = .ok (.getfield 12, 3) := by decide +kernel
theorem dX10_bestSwap_4 : decode cX10_bestSwap 4 = .ok (.aload_n 1, 1) := by decide +kernel
theorem dX10_bestSwap_5 : decode cX10_bestSwap 5 = .ok (.iconst 0, 1) := by decide +kernel
theorem dX10_bestSwap_6 : decode cX10_bestSwap 6 = .ok (.invokevirtual 29, 3) := by decide +kernel
theorem dX10_bestSwap_9 : decode cX10_bestSwap 9 = .ok (.ifCond .eq 5, 3) := by decide +kernel
theorem dX10_bestSwap_12 : decode cX10_bestSwap 12 = .ok (.iconst (-1), 1) := by decide +kernel
theorem dX10_bestSwap_13 : decode cX10_bestSwap 13 = .ok (.ireturn, 1) := by decide +kernel
theorem dX10_bestSwap_14 : decode cX10_bestSwap 14 = .ok (.iconst 0, 1) := by decide +kernel
theorem dX10_bestSwap_15 : decode cX10_bestSwap 15 = .ok (.istore_n 2, 1) := by decide +kernel
theorem dX10_bestSwap_16 : decode cX10_bestSwap 16 = .ok (.iload_n 2, 1) := by decide +kernel
theorem dX10_bestSwap_17 : decode cX10_bestSwap 17 = .ok (.aload_n 1, 1) := by decide +kernel
theorem dX10_bestSwap_18 : decode cX10_bestSwap 18 = .ok (.getfield 44, 3) := by decide +kernel
theorem dX10_bestSwap_21 : decode cX10_bestSwap 21 = .ok (.if_icmp .ge 102, 3) := by decide +kernel
theorem dX10_bestSwap_24 : decode cX10_bestSwap 24 = .ok (.iload_n 2, 1) := by decide +kernel
theorem dX10_bestSwap_25 : decode cX10_bestSwap 25 = .ok (.iconst 1, 1) := by decide +kernel
theorem dX10_bestSwap_26 : decode cX10_bestSwap 26 = .ok (.iadd, 1) := by decide +kernel
theorem dX10_bestSwap_27 : decode cX10_bestSwap 27 = .ok (.istore_n 3, 1) := by decide +kernel
theorem dX10_bestSwap_28 : decode cX10_bestSwap 28 = .ok (.iload_n 3, 1) := by decide +kernel
theorem dX10_bestSwap_29 : decode cX10_bestSwap 29 = .ok (.aload_n 1, 1) := by decide +kernel
theorem dX10_bestSwap_30 : decode cX10_bestSwap 30 = .ok (.getfield 44, 3) := by decide +kernel
theorem dX10_bestSwap_33 : decode cX10_bestSwap 33 = .ok (.if_icmp .ge 84, 3) := by decide +kernel
theorem dX10_bestSwap_36 : decode cX10_bestSwap 36 = .ok (.aload_n 0, 1) := by decide +kernel
theorem dX10_bestSwap_37 : decode cX10_bestSwap 37 = .ok (.getfield 21, 3) := by decide +kernel
theorem dX10_bestSwap_40 : decode cX10_bestSwap 40 = .ok (.aload_n 1, 1) := by decide +kernel
theorem dX10_bestSwap_41 : decode cX10_bestSwap 41 = .ok (.invokevirtual 33, 3) := by decide +kernel
theorem dX10_bestSwap_44 : decode cX10_bestSwap 44 = .ok (.aload_n 0, 1) := by decide +kernel
theorem dX10_bestSwap_45 : decode cX10_bestSwap 45 = .ok (.getfield 21, 3) := by decide +kernel
theorem dX10_bestSwap_48 : decode cX10_bestSwap 48 = .ok (.getfield 74, 3) := by decide +kernel
theorem dX10_bestSwap_51 : decode cX10_bestSwap 51 = .ok (.iload_n 2, 1) := by decide +kernel
theorem dX10_bestSwap_52 : decode cX10_bestSwap 52 = .ok (.aload_n 1, 1) := by decide +kernel
theorem dX10_bestSwap_53 : decode cX10_bestSwap 53 = .ok (.getfield 74, 3) := by decide +kernel
theorem dX10_bestSwap_56 : decode cX10_bestSwap 56 = .ok (.iload_n 3, 1) := by decide +kernel
theorem dX10_bestSwap_57 : decode cX10_bestSwap 57 = .ok (.iaload, 1) := by decide +kernel
theorem dX10_bestSwap_58 : decode cX10_bestSwap 58 = .ok (.iastore, 1) := by decide +kernel
theorem dX10_bestSwap_59 : decode cX10_bestSwap 59 = .ok (.aload_n 0, 1) := by decide +kernel
theorem dX10_bestSwap_60 : decode cX10_bestSwap 60 = .ok (.getfield 21, 3) := by decide +kernel
theorem dX10_bestSwap_63 : decode cX10_bestSwap 63 = .ok (.getfield 74, 3) := by decide +kernel
theorem dX10_bestSwap_66 : decode cX10_bestSwap 66 = .ok (.iload_n 3, 1) := by decide +kernel
theorem dX10_bestSwap_67 : decode cX10_bestSwap 67 = .ok (.aload_n 1, 1) := by decide +kernel
theorem dX10_bestSwap_68 : decode cX10_bestSwap 68 = .ok (.getfield 74, 3) := by decide +kernel
theorem dX10_bestSwap_71 : decode cX10_bestSwap 71 = .ok (.iload_n 2, 1) := by decide +kernel
theorem dX10_bestSwap_72 : decode cX10_bestSwap 72 = .ok (.iaload, 1) := by decide +kernel
theorem dX10_bestSwap_73 : decode cX10_bestSwap 73 = .ok (.iastore, 1) := by decide +kernel
theorem dX10_bestSwap_74 : decode cX10_bestSwap 74 = .ok (.aload_n 1, 1) := by decide +kernel
theorem dX10_bestSwap_75 : decode cX10_bestSwap 75 = .ok (.getfield 74, 3) := by decide +kernel
theorem dX10_bestSwap_78 : decode cX10_bestSwap 78 = .ok (.iload_n 2, 1) := by decide +kernel
theorem dX10_bestSwap_79 : decode cX10_bestSwap 79 = .ok (.iaload, 1) := by decide +kernel
theorem dX10_bestSwap_80 : decode cX10_bestSwap 80 = .ok (.aload_n 1, 1) := by decide +kernel
theorem dX10_bestSwap_81 : decode cX10_bestSwap 81 = .ok (.getfield 74, 3) := by decide +kernel
theorem dX10_bestSwap_84 : decode cX10_bestSwap 84 = .ok (.iload_n 3, 1) := by decide +kernel
theorem dX10_bestSwap_85 : decode cX10_bestSwap 85 = .ok (.iaload, 1) := by decide +kernel
theorem dX10_bestSwap_86 : decode cX10_bestSwap 86 = .ok (.if_icmp .eq 25, 3) := by decide +kernel
theorem dX10_bestSwap_89 : decode cX10_bestSwap 89 = .ok (.aload_n 0, 1) := by decide +kernel
theorem dX10_bestSwap_90 : decode cX10_bestSwap 90 = .ok (.getfield 12, 3) := by decide +kernel
theorem dX10_bestSwap_93 : decode cX10_bestSwap 93 = .ok (.aload_n 0, 1) := by decide +kernel
theorem dX10_bestSwap_94 : decode cX10_bestSwap 94 = .ok (.getfield 21, 3) := by decide +kernel
theorem dX10_bestSwap_97 : decode cX10_bestSwap 97 = .ok (.iconst 0, 1) := by decide +kernel
theorem dX10_bestSwap_98 : decode cX10_bestSwap 98 = .ok (.invokevirtual 29, 3) := by decide +kernel
theorem dX10_bestSwap_101 : decode cX10_bestSwap 101 = .ok (.ifCond .eq 10, 3) := by decide +kernel
theorem dX10_bestSwap_104 : decode cX10_bestSwap 104 = .ok (.bipush 10, 2) := by decide +kernel
theorem dX10_bestSwap_106 : decode cX10_bestSwap 106 = .ok (.iload_n 2, 1) := by decide +kernel
theorem dX10_bestSwap_107 : decode cX10_bestSwap 107 = .ok (.imul, 1) := by decide +kernel
theorem dX10_bestSwap_108 : decode cX10_bestSwap 108 = .ok (.iload_n 3, 1) := by decide +kernel
theorem dX10_bestSwap_109 : decode cX10_bestSwap 109 = .ok (.iadd, 1) := by decide +kernel
theorem dX10_bestSwap_110 : decode cX10_bestSwap 110 = .ok (.ireturn, 1) := by decide +kernel
theorem dX10_bestSwap_111 : decode cX10_bestSwap 111 = .ok (.iinc 3 1, 3) := by decide +kernel
theorem dX10_bestSwap_114 : decode cX10_bestSwap 114 = .ok (.goto (-86), 3) := by decide +kernel
theorem dX10_bestSwap_117 : decode cX10_bestSwap 117 = .ok (.iinc 2 1, 3) := by decide +kernel
theorem dX10_bestSwap_120 : decode cX10_bestSwap 120 = .ok (.goto (-104), 3) := by decide +kernel
theorem dX10_bestSwap_123 : decode cX10_bestSwap 123 = .ok (.iconst (-1), 1) := by decide +kernel
theorem dX10_bestSwap_124 : decode cX10_bestSwap 124 = .ok (.ireturn, 1) := by decide +kernel
theorem dX11_init_0 : decode cX11_init 0 = .ok (.aload_n 0, 1) := by decide +kernel
theorem dX11_init_1 : decode cX11_init 1 = .ok (.invokespecial 1, 3) := by decide +kernel
theorem dX11_init_4 : decode cX11_init 4 = .ok (.aload_n 0, 1) := by decide +kernel
theorem dX11_init_5 : decode cX11_init 5 = .ok (.new 7, 3) := by decide +kernel
theorem dX11_init_8 : decode cX11_init 8 = .ok (.dup, 1) := by decide +kernel
theorem dX11_init_9 : decode cX11_init 9 = .ok (.invokespecial 9, 3) := by decide +kernel
theorem dX11_init_12 : decode cX11_init 12 = .ok (.putfield 10, 3) := by decide +kernel
theorem dX11_init_15 : decode cX11_init 15 = .ok (.aload_n 0, 1) := by decide +kernel
theorem dX11_init_16 : decode cX11_init 16 = .ok (.iconst 3, 1) := by decide +kernel
theorem dX11_init_17 : decode cX11_init 17 = .ok (.anewarray 7, 3) := by decide +kernel
theorem dX11_init_20 : decode cX11_init 20 = .ok (.putfield 16, 3) := by decide +kernel
theorem dX11_init_23 : decode cX11_init 23 = .ok (.iconst 0, 1) := by decide +kernel
theorem dX11_init_24 : decode cX11_init 24 = .ok (.istore_n 1, 1) := by decide +kernel
theorem dX11_init_25 : decode cX11_init 25 = .ok (.iload_n 1, 1) := by decide +kernel
theorem dX11_init_26 : decode cX11_init 26 = .ok (.aload_n 0, 1) := by decide +kernel
theorem dX11_init_27 : decode cX11_init 27 = .ok (.getfield 16, 3) := by decide +kernel
theorem dX11_init_30 : decode cX11_init 30 = .ok (.arraylength, 1) := by decide +kernel
theorem dX11_init_31 : decode cX11_init 31 = .ok (.if_icmp .ge 22, 3) := by decide +kernel
theorem dX11_init_34 : decode cX11_init 34 = .ok (.aload_n 0, 1) := by decide +kernel
theorem dX11_init_35 : decode cX11_init 35 = .ok (.getfield 16, 3) := by decide +kernel
theorem dX11_init_38 : decode cX11_init 38 = .ok (.iload_n 1, 1) := by decide +kernel
theorem dX11_init_39 : decode cX11_init 39 = .ok (.new 7, 3) := by decide +kernel
theorem dX11_init_42 : decode cX11_init 42 = .ok (.dup, 1) := by decide +kernel
theorem dX11_init_43 : decode cX11_init 43 = .ok (.invokespecial 9, 3) := by decide +kernel
theorem dX11_init_46 : decode cX11_init 46 = .ok (.aastore, 1) := by decide +kernel
theorem dX11_init_47 : decode cX11_init 47 = .ok (.iinc 1 1, 3) := by decide +kernel
theorem dX11_init_50 : decode cX11_init 50 = .ok (.goto (-25), 3) := by decide +kernel
theorem dX11_init_53 : decode cX11_init 53 = .ok (.aload_n 0, 1) := by decide +kernel
theorem dX11_init_54 : decode cX11_init 54 = .ok (.iconst 3, 1) := by decide +kernel
theorem dX11_init_55 : decode cX11_init 55 = .ok (.newarray .boolean, 2) := by decide +kernel
theorem dX11_init_57 : decode cX11_init 57 = .ok (.putfield 20, 3) := by decide +kernel
theorem dX11_init_60 : decode cX11_init 60 = .ok (.aload_n 0, 1) := by decide +kernel
theorem dX11_init_61 : decode cX11_init 61 = .ok (.new 24, 3) := by decide +kernel
theorem dX11_init_64 : decode cX11_init 64 = .ok (.dup, 1) := by decide +kernel
theorem dX11_init_65 : decode cX11_init 65 = .ok (.invokespecial 26, 3) := by decide +kernel
theorem dX11_init_68 : decode cX11_init 68 = .ok (.putfield 27, 3) := by decide +kernel
theorem dX11_init_71 : decode cX11_init 71 = .ok (.aload_n 0, 1) := by decide +kernel
theorem dX11_init_72 : decode cX11_init 72 = .ok (.new 31, 3) := by decide +kernel
theorem dX11_init_75 : decode cX11_init 75 = .ok (.dup, 1) := by decide +kernel
theorem dX11_init_76 : decode cX11_init 76 = .ok (.invokespecial 33, 3) := by decide +kernel
theorem dX11_init_79 : decode cX11_init 79 = .ok (.putfield 34, 3) := by decide +kernel
theorem dX11_init_82 : decode cX11_init 82 = .ok (.aload_n 0, 1) := by decide +kernel
theorem dX11_init_83 : decode cX11_init 83 = .ok (.new 38, 3) := by decide +kernel
theorem dX11_init_86 : decode cX11_init 86 = .ok (.dup, 1) := by decide +kernel
theorem dX11_init_87 : decode cX11_init 87 = .ok (.invokespecial 40, 3) := by decide +kernel
theorem dX11_init_90 : decode cX11_init 90 = .ok (.putfield 41, 3) := by decide +kernel
theorem dX11_init_93 : decode cX11_init 93 = .ok (.aload_n 0, 1) := by decide +kernel
theorem dX11_init_94 : decode cX11_init 94 = .ok (.aload_n 0, 1) := by decide +kernel
theorem dX11_init_95 : decode cX11_init 95 = .ok (.getfield 41, 3) := by decide +kernel
theorem dX11_init_98 : decode cX11_init 98 = .ok (.getfield 45, 3) := by decide +kernel
theorem dX11_init_101 : decode cX11_init 101 = .ok (.putfield 49, 3) := by decide +kernel
theorem dX11_init_104 : decode cX11_init 104 = .ok (.aload_n 0, 1) := by decide +kernel
theorem dX11_init_105 : decode cX11_init 105 = .ok (.new 50, 3) := by decide +kernel
theorem dX11_init_108 : decode cX11_init 108 = .ok (.dup, 1) := by decide +kernel
theorem dX11_init_109 : decode cX11_init 109 = .ok (.invokespecial 52, 3) := by decide +kernel
theorem dX11_init_112 : decode cX11_init 112 = .ok (.putfield 53, 3) := by decide +kernel
theorem dX11_init_115 : decode cX11_init 115 = .ok (.return_, 1) := by decide +kernel
theorem dX11_feed_0 : decode cX11_feed 0 = .ok (.aload_n 0, 1) := by decide +kernel
theorem dX11_feed_1 : decode cX11_feed 1 = .ok (.getfield 10, 3) := by decide +kernel
theorem dX11_feed_4 : decode cX11_feed 4 = .ok (.getfield 57, 3) := by decide +kernel
theorem dX11_feed_7 : decode cX11_feed 7 = .ok (.bipush 20, 2) := by decide +kernel
theorem dX11_feed_9 : decode cX11_feed 9 = .ok (.iadd, 1) := by decide +kernel
theorem dX11_feed_10 : decode cX11_feed 10 = .ok (.sipush 600, 3) := by decide +kernel
theorem dX11_feed_13 : decode cX11_feed 13 = .ok (.if_icmp .le 5, 3) := by decide +kernel
theorem dX11_feed_16 : decode cX11_feed 16 = .ok (.iconst (-1), 1) := by decide +kernel
theorem dX11_feed_17 : decode cX11_feed 17 = .ok (.ireturn, 1) := by decide +kernel
theorem dX11_feed_18 : decode cX11_feed 18 = .ok (.aload_n 0, 1) := by decide +kernel
theorem dX11_feed_19 : decode cX11_feed 19 = .ok (.getfield 10, 3) := by decide +kernel
theorem dX11_feed_22 : decode cX11_feed 22 = .ok (.iload_n 1, 1) := by decide +kernel
theorem dX11_feed_23 : decode cX11_feed 23 = .ok (.invokevirtual 61, 3) := by decide +kernel
theorem dX11_feed_26 : decode cX11_feed 26 = .ok (.aload_n 0, 1) := by decide +kernel
theorem dX11_feed_27 : decode cX11_feed 27 = .ok (.getfield 10, 3) := by decide +kernel
theorem dX11_feed_30 : decode cX11_feed 30 = .ok (.iload_n 2, 1) := by decide +kernel
theorem dX11_feed_31 : decode cX11_feed 31 = .ok (.invokevirtual 61, 3) := by decide +kernel
theorem dX11_feed_34 : decode cX11_feed 34 = .ok (.aload_n 0, 1) := by decide +kernel
theorem dX11_feed_35 : decode cX11_feed 35 = .ok (.getfield 10, 3) := by decide +kernel
theorem dX11_feed_38 : decode cX11_feed 38 = .ok (.iload_n 3, 1) := by decide +kernel
theorem dX11_feed_39 : decode cX11_feed 39 = .ok (.invokevirtual 61, 3) := by decide +kernel
theorem dX11_feed_42 : decode cX11_feed 42 = .ok (.aload_n 0, 1) := by decide +kernel
theorem dX11_feed_43 : decode cX11_feed 43 = .ok (.getfield 10, 3) := by decide +kernel
theorem dX11_feed_46 : decode cX11_feed 46 = .ok (.iload 4, 2) := by decide +kernel
theorem dX11_feed_48 : decode cX11_feed 48 = .ok (.invokevirtual 61, 3) := by decide +kernel
theorem dX11_feed_51 : decode cX11_feed 51 = .ok (.aload_n 0, 1) := by decide +kernel
theorem dX11_feed_52 : decode cX11_feed 52 = .ok (.getfield 10, 3) := by decide +kernel
theorem dX11_feed_55 : decode cX11_feed 55 = .ok (.iload 5, 2) := by decide +kernel
theorem dX11_feed_57 : decode cX11_feed 57 = .ok (.invokevirtual 61, 3) := by decide +kernel
theorem dX11_feed_60 : decode cX11_feed 60 = .ok (.aload_n 0, 1) := by decide +kernel
theorem dX11_feed_61 : decode cX11_feed 61 = .ok (.getfield 10, 3) := by decide +kernel
theorem dX11_feed_64 : decode cX11_feed 64 = .ok (.getfield 57, 3) := by decide +kernel
theorem dX11_feed_67 : decode cX11_feed 67 = .ok (.ireturn, 1) := by decide +kernel
theorem dX11_end_0 : decode cX11_end 0 = .ok (.iload_n 1, 1) := by decide +kernel
theorem dX11_end_1 : decode cX11_end 1 = .ok (.ifCond .lt 14, 3) := by decide +kernel
theorem dX11_end_4 : decode cX11_end 4 = .ok (.iload_n 1, 1) := by decide +kernel
theorem dX11_end_5 : decode cX11_end 5 = .ok (.aload_n 0, 1) := by decide +kernel
theorem dX11_end_6 : decode cX11_end 6 = .ok (.getfield 10, 3) := by decide +kernel
theorem dX11_end_9 : decode cX11_end 9 = .ok (.getfield 57, 3) := by decide +kernel
theorem dX11_end_12 : decode cX11_end 12 = .ok (.if_icmp .le 5, 3) := by decide +kernel
theorem dX11_end_15 : decode cX11_end 15 = .ok (.iconst (-1), 1) := by decide +kernel
theorem dX11_end_16 : decode cX11_end 16 = .ok (.ireturn, 1) := by decide +kernel
theorem dX11_end_17 : decode cX11_end 17 = .ok (.aload_n 0, 1) := by decide +kernel
theorem dX11_end_18 : decode cX11_end 18 = .ok (.getfield 10, 3) := by decide +kernel
theorem dX11_end_21 : decode cX11_end 21 = .ok (.iload_n 1, 1) := by decide +kernel
theorem dX11_end_22 : decode cX11_end 22 = .ok (.putfield 57, 3) := by decide +kernel
theorem dX11_end_25 : decode cX11_end 25 = .ok (.iload_n 1, 1) := by decide +kernel
theorem dX11_end_26 : decode cX11_end 26 = .ok (.ireturn, 1) := by decide +kernel
theorem dX11_text_0 : decode cX11_text 0 = .ok (.aload_n 0, 1) := by decide +kernel
theorem dX11_text_1 : decode cX11_text 1 = .ok (.iload_n 1, 1) := by decide +kernel
theorem dX11_text_2 : decode cX11_text 2 = .ok (.iload_n 2, 1) := by decide +kernel
theorem dX11_text_3 : decode cX11_text 3 = .ok (.invokevirtual 65, 3) := by decide +kernel
theorem dX11_text_6 : decode cX11_text 6 = .ok (.istore_n 3, 1) := by decide +kernel
theorem dX11_text_7 : decode cX11_text 7 = .ok (.iload_n 3, 1) := by decide +kernel
theorem dX11_text_8 : decode cX11_text 8 = .ok (.bipush (-2), 2) := by decide +kernel
theorem dX11_text_10 : decode cX11_text 10 = .ok (.if_icmp .ne 30, 3) := by decide +kernel
theorem dX11_text_13 : decode cX11_text 13 = .ok (.aload_n 0, 1) := by decide +kernel
theorem dX11_text_14 : decode cX11_text 14 = .ok (.getfield 10, 3) := by decide +kernel
theorem dX11_text_17 : decode cX11_text 17 = .ok (.iconst 0, 1) := by decide +kernel
theorem dX11_text_18 : decode cX11_text 18 = .ok (.putfield 57, 3) := by decide +kernel
theorem dX11_text_21 : decode cX11_text 21 = .ok (.aload_n 0, 1) := by decide +kernel
theorem dX11_text_22 : decode cX11_text 22 = .ok (.getfield 10, 3) := by decide +kernel
theorem dX11_text_25 : decode cX11_text 25 = .ok (.iconst 0, 1) := by decide +kernel
theorem dX11_text_26 : decode cX11_text 26 = .ok (.putfield 69, 3) := by decide +kernel
theorem dX11_text_29 : decode cX11_text 29 = .ok (.aload_n 0, 1) := by decide +kernel
theorem dX11_text_30 : decode cX11_text 30 = .ok (.getfield 10, 3) := by decide +kernel
theorem dX11_text_33 : decode cX11_text 33 = .ok (.iconst (-1), 1) := by decide +kernel
theorem dX11_text_34 : decode cX11_text 34 = .ok (.putfield 72, 3) := by decide +kernel
theorem dX11_text_37 : decode cX11_text 37 = .ok (.bipush (-2), 2) := by decide +kernel
theorem dX11_text_39 : decode cX11_text 39 = .ok (.ireturn, 1) := by decide +kernel
theorem dX11_text_40 : decode cX11_text 40 = .ok (.aload_n 0, 1) := by decide +kernel
theorem dX11_text_41 : decode cX11_text 41 = .ok (.getfield 27, 3) := by decide +kernel
theorem dX11_text_44 : decode cX11_text 44 = .ok (.aload_n 0, 1) := by decide +kernel
theorem dX11_text_45 : decode cX11_text 45 = .ok (.getfield 10, 3) := by decide +kernel
theorem dX11_text_48 : decode cX11_text 48 = .ok (.iload_n 1, 1) := by decide +kernel
theorem dX11_text_49 : decode cX11_text 49 = .ok (.invokevirtual 75, 3) := by decide +kernel
theorem dX11_text_52 : decode cX11_text 52 = .ok (.aload_n 0, 1) := by decide +kernel
theorem dX11_text_53 : decode cX11_text 53 = .ok (.getfield 10, 3) := by decide +kernel
theorem dX11_text_56 : decode cX11_text 56 = .ok (.iconst 0, 1) := by decide +kernel
theorem dX11_text_57 : decode cX11_text 57 = .ok (.putfield 57, 3) := by decide +kernel
theorem dX11_text_60 : decode cX11_text 60 = .ok (.aload_n 0, 1) := by decide +kernel
theorem dX11_text_61 : decode cX11_text 61 = .ok (.getfield 10, 3) := by decide +kernel
theorem dX11_text_64 : decode cX11_text 64 = .ok (.aload_n 0, 1) := by decide +kernel
theorem dX11_text_65 : decode cX11_text 65 = .ok (.getfield 27, 3) := by decide +kernel
theorem dX11_text_68 : decode cX11_text 68 = .ok (.getfield 79, 3) := by decide +kernel
theorem dX11_text_71 : decode cX11_text 71 = .ok (.putfield 69, 3) := by decide +kernel
theorem dX11_text_74 : decode cX11_text 74 = .ok (.aload_n 0, 1) := by decide +kernel
theorem dX11_text_75 : decode cX11_text 75 = .ok (.getfield 10, 3) := by decide +kernel
theorem dX11_text_78 : decode cX11_text 78 = .ok (.aload_n 0, 1) := by decide +kernel
theorem dX11_text_79 : decode cX11_text 79 = .ok (.getfield 27, 3) := by decide +kernel
theorem dX11_text_82 : decode cX11_text 82 = .ok (.getfield 80, 3) := by decide +kernel
theorem dX11_text_85 : decode cX11_text 85 = .ok (.putfield 72, 3) := by decide +kernel
theorem dX11_text_88 : decode cX11_text 88 = .ok (.aload_n 0, 1) := by decide +kernel
theorem dX11_text_89 : decode cX11_text 89 = .ok (.getfield 27, 3) := by decide +kernel
theorem dX11_text_92 : decode cX11_text 92 = .ok (.getfield 79, 3) := by decide +kernel
theorem dX11_text_95 : decode cX11_text 95 = .ok (.ifCond .eq 5, 3) := by decide +kernel
theorem dX11_text_98 : decode cX11_text 98 = .ok (.iconst (-1), 1) := by decide +kernel
theorem dX11_text_99 : decode cX11_text 99 = .ok (.ireturn, 1) := by decide +kernel
theorem dX11_text_100 : decode cX11_text 100 = .ok (.aload_n 0, 1) := by decide +kernel
theorem dX11_text_101 : decode cX11_text 101 = .ok (.iload_n 1, 1) := by decide +kernel
theorem dX11_text_102 : decode cX11_text 102 = .ok (.iload_n 3, 1) := by decide +kernel
theorem dX11_text_103 : decode cX11_text 103 = .ok (.invokevirtual 81, 3) := by decide +kernel
theorem dX11_text_106 : decode cX11_text 106 = .ok (.iload_n 3, 1) := by decide +kernel
theorem dX11_text_107 : decode cX11_text 107 = .ok (.ireturn, 1) := by decide +kernel
theorem dX11_fault_0 : decode cX11_fault 0 = .ok (.iload_n 1, 1) := by decide +kernel
theorem dX11_fault_1 : decode cX11_fault 1 = .ok (.lookupswitch 43 #[(0, 27), (1, 35)], 27) := by decide +kernel
theorem dX11_fault_28 : decode cX11_fault 28 = .ok (.aload_n 0, 1) := by decide +kernel
theorem dX11_fault_29 : decode cX11_fault 29 = .ok (.getfield 10, 3) := by decide +kernel
theorem dX11_fault_32 : decode cX11_fault 32 = .ok (.getfield 69, 3) := by decide +kernel
theorem dX11_fault_35 : decode cX11_fault 35 = .ok (.ireturn, 1) := by decide +kernel
theorem dX11_fault_36 : decode cX11_fault 36 = .ok (.aload_n 0, 1) := by decide +kernel
theorem dX11_fault_37 : decode cX11_fault 37 = .ok (.getfield 10, 3) := by decide +kernel
theorem dX11_fault_40 : decode cX11_fault 40 = .ok (.getfield 72, 3) := by decide +kernel
theorem dX11_fault_43 : decode cX11_fault 43 = .ok (.ireturn, 1) := by decide +kernel
theorem dX11_fault_44 : decode cX11_fault 44 = .ok (.iconst (-1), 1) := by decide +kernel
theorem dX11_fault_45 : decode cX11_fault 45 = .ok (.ireturn, 1) := by decide +kernel
theorem dX11_stage_0 : decode cX11_stage 0 = .ok (.aload_n 0, 1) := by decide +kernel
theorem dX11_stage_1 : decode cX11_stage 1 = .ok (.getfield 10, 3) := by decide +kernel
theorem dX11_stage_4 : decode cX11_stage 4 = .ok (.iload_n 1, 1) := by decide +kernel
theorem dX11_stage_5 : decode cX11_stage 5 = .ok (.invokevirtual 85, 3) := by decide +kernel
theorem dX11_stage_8 : decode cX11_stage 8 = .ok (.astore_n 3, 1) := by decide +kernel
theorem dX11_stage_9 : decode cX11_stage 9 = .ok (.aload_n 3, 1) := by decide +kernel
theorem dX11_stage_10 : decode cX11_stage 10 = .ok (.ifnonnull 5, 3) := by decide +kernel
theorem dX11_stage_13 : decode cX11_stage 13 = .ok (.iconst (-1), 1) := by decide +kernel
theorem dX11_stage_14 : decode cX11_stage 14 = .ok (.ireturn, 1) := by decide +kernel
theorem dX11_stage_15 : decode cX11_stage 15 = .ok (.iload_n 2, 1) := by decide +kernel
theorem dX11_stage_16 : decode cX11_stage 16 = .ok (.tableswitch 43 0 2 #[28, 33, 38], 28) := by decide +kernel
theorem dX11_stage_44 : decode cX11_stage 44 = .ok (.aload_n 3, 1) := by decide +kernel
theorem dX11_stage_45 : decode cX11_stage 45 = .ok (.getfield 89, 3) := by decide +kernel
theorem dX11_stage_48 : decode cX11_stage 48 = .ok (.ireturn, 1) := by decide +kernel
theorem dX11_stage_49 : decode cX11_stage 49 = .ok (.aload_n 3, 1) := by decide +kernel
theorem dX11_stage_50 : decode cX11_stage 50 = .ok (.getfield 94, 3) := by decide +kernel
theorem dX11_stage_53 : decode cX11_stage 53 = .ok (.ireturn, 1) := by decide +kernel
theorem dX11_stage_54 : decode cX11_stage 54 = .ok (.aload_n 3, 1) := by decide +kernel
theorem dX11_stage_55 : decode cX11_stage 55 = .ok (.getfield 97, 3) := by decide +kernel
theorem dX11_stage_58 : decode cX11_stage 58 = .ok (.ireturn, 1) := by decide +kernel
theorem dX11_stage_59 : decode cX11_stage 59 = .ok (.aload_n 3, 1) := by decide +kernel
theorem dX11_stage_60 : decode cX11_stage 60 = .ok (.iload_n 2, 1) := by decide +kernel
theorem dX11_stage_61 : decode cX11_stage 61 = .ok (.invokevirtual 100, 3) := by decide +kernel
theorem dX11_stage_64 : decode cX11_stage 64 = .ok (.ireturn, 1) := by decide +kernel
theorem dX11_deed_0 : decode cX11_deed 0 = .ok (.aload_n 0, 1) := by decide +kernel
theorem dX11_deed_1 : decode cX11_deed 1 = .ok (.getfield 10, 3) := by decide +kernel
theorem dX11_deed_4 : decode cX11_deed 4 = .ok (.iload_n 1, 1) := by decide +kernel
theorem dX11_deed_5 : decode cX11_deed 5 = .ok (.invokevirtual 104, 3) := by decide +kernel
theorem dX11_deed_8 : decode cX11_deed 8 = .ok (.astore 4, 2) := by decide +kernel
theorem dX11_deed_10 : decode cX11_deed 10 = .ok (.aload 4, 2) := by decide +kernel
theorem dX11_deed_12 : decode cX11_deed 12 = .ok (.ifnonnull 6, 3) := by decide +kernel
theorem dX11_deed_15 : decode cX11_deed 15 = .ok (.bipush (-2), 2) := by decide +kernel
theorem dX11_deed_17 : decode cX11_deed 17 = .ok (.ireturn, 1) := by decide +kernel
theorem dX11_deed_18 : decode cX11_deed 18 = .ok (.iload_n 2, 1) := by decide +kernel
theorem dX11_deed_19 : decode cX11_deed 19 = .ok (.iconst (-1), 1) := by decide +kernel
theorem dX11_deed_20 : decode cX11_deed 20 = .ok (.if_icmp .ne 18, 3) := by decide +kernel
theorem dX11_deed_23 : decode cX11_deed 23 = .ok (.iload_n 3, 1) := by decide +kernel
theorem dX11_deed_24 : decode cX11_deed 24 = .ok (.ifCond .ne 11, 3) := by decide +kernel
theorem dX11_deed_27 : decode cX11_deed 27 = .ok (.aload 4, 2) := by decide +kernel
theorem dX11_deed_29 : decode cX11_deed 29 = .ok (.getfield 108, 3) := by decide +kernel
theorem dX11_deed_32 : decode cX11_deed 32 = .ok (.goto 5, 3) := by decide +kernel
theorem dX11_deed_35 : decode cX11_deed 35 = .ok (.bipush (-2), 2) := by decide +kernel
theorem dX11_deed_37 : decode cX11_deed 37 = .ok (.ireturn, 1) := by decide +kernel
theorem dX11_deed_38 : decode cX11_deed 38 = .ok (.aload 4, 2) := by decide +kernel
theorem dX11_deed_40 : decode cX11_deed 40 = .ok (.iload_n 2, 1) := by decide +kernel
theorem dX11_deed_41 : decode cX11_deed 41 = .ok (.invokevirtual 113, 3) := by decide +kernel
theorem dX11_deed_44 : decode cX11_deed 44 = .ok (.ifCond .ne 6, 3) := by decide +kernel
theorem dX11_deed_47 : decode cX11_deed 47 = .ok (.bipush (-2), 2) := by decide +kernel
theorem dX11_deed_49 : decode cX11_deed 49 = .ok (.ireturn, 1) := by decide +kernel
theorem dX11_deed_50 : decode cX11_deed 50 = .ok (.iload_n 3, 1) := by decide +kernel
theorem dX11_deed_51 : decode cX11_deed 51 = .ok (.lookupswitch 41 #[(0, 25), (1, 33)], 25) := by decide +kernel
theorem dX11_deed_76 : decode cX11_deed 76 = .ok (.aload 4, 2) := by decide +kernel
theorem dX11_deed_78 : decode cX11_deed 78 = .ok (.getfield 117, 3) := by decide +kernel
theorem dX11_deed_81 : decode cX11_deed 81 = .ok (.iload_n 2, 1) := by decide +kernel
theorem dX11_deed_82 : decode cX11_deed 82 = .ok (.iaload, 1) := by decide +kernel
theorem dX11_deed_83 : decode cX11_deed 83 = .ok (.ireturn, 1) := by decide +kernel
theorem dX11_deed_84 : decode cX11_deed 84 = .ok (.aload 4, 2) := by decide +kernel
theorem dX11_deed_86 : decode cX11_deed 86 = .ok (.getfield 121, 3) := by decide +kernel
theorem dX11_deed_89 : decode cX11_deed 89 = .ok (.iload_n 2, 1) := by decide +kernel
theorem dX11_deed_90 : decode cX11_deed 90 = .ok (.iaload, 1) := by decide +kernel
theorem dX11_deed_91 : decode cX11_deed 91 = .ok (.ireturn, 1) := by decide +kernel
theorem dX11_deed_92 : decode cX11_deed 92 = .ok (.bipush (-2), 2) := by decide +kernel
theorem dX11_deed_94 : decode cX11_deed 94 = .ok (.ireturn, 1) := by decide +kernel
theorem dX11_stop_0 : decode cX11_stop 0 = .ok (.aload_n 0, 1) := by decide +kernel
theorem dX11_stop_1 : decode cX11_stop 1 = .ok (.getfield 10, 3) := by decide +kernel
theorem dX11_stop_4 : decode cX11_stop 4 = .ok (.iload_n 1, 1) := by decide +kernel
theorem dX11_stop_5 : decode cX11_stop 5 = .ok (.invokevirtual 85, 3) := by decide +kernel
theorem dX11_stop_8 : decode cX11_stop 8 = .ok (.astore_n 3, 1) := by decide +kernel
theorem dX11_stop_9 : decode cX11_stop 9 = .ok (.aload_n 0, 1) := by decide +kernel
theorem dX11_stop_10 : decode cX11_stop 10 = .ok (.getfield 10, 3) := by decide +kernel
theorem dX11_stop_13 : decode cX11_stop 13 = .ok (.iload_n 2, 1) := by decide +kernel
theorem dX11_stop_14 : decode cX11_stop 14 = .ok (.invokevirtual 104, 3) := by decide +kernel
theorem dX11_stop_17 : decode cX11_stop 17 = .ok (.astore 4, 2) := by decide +kernel
theorem dX11_stop_19 : decode cX11_stop 19 = .ok (.aload_n 3, 1) := by decide +kernel
theorem dX11_stop_20 : decode cX11_stop 20 = .ok (.ifnull 8, 3) := by decide +kernel
theorem dX11_stop_23 : decode cX11_stop 23 = .ok (.aload 4, 2) := by decide +kernel
theorem dX11_stop_25 : decode cX11_stop 25 = .ok (.ifnonnull 5, 3) := by decide +kernel
theorem dX11_stop_28 : decode cX11_stop 28 = .ok (.iconst (-1), 1) := by decide +kernel
theorem dX11_stop_29 : decode cX11_stop 29 = .ok (.ireturn, 1) := by decide +kernel
theorem dX11_stop_30 : decode cX11_stop 30 = .ok (.aload_n 0, 1) := by decide +kernel
theorem dX11_stop_31 : decode cX11_stop 31 = .ok (.getfield 34, 3) := by decide +kernel
theorem dX11_stop_34 : decode cX11_stop 34 = .ok (.aload_n 3, 1) := by decide +kernel
theorem dX11_stop_35 : decode cX11_stop 35 = .ok (.aload 4, 2) := by decide +kernel
theorem dX11_stop_37 : decode cX11_stop 37 = .ok (.bipush 40, 2) := by decide +kernel
theorem dX11_stop_39 : decode cX11_stop 39 = .ok (.invokevirtual 124, 3) := by decide +kernel
theorem dX11_stop_42 : decode cX11_stop 42 = .ok (.ireturn, 1) := by decide +kernel
theorem dX11_state_0 : decode cX11_state 0 = .ok (.aload_n 0, 1) := by decide +kernel
theorem dX11_state_1 : decode cX11_state 1 = .ok (.getfield 10, 3) := by decide +kernel
theorem dX11_state_4 : decode cX11_state 4 = .ok (.iload_n 1, 1) := by decide +kernel
theorem dX11_state_5 : decode cX11_state 5 = .ok (.invokevirtual 85, 3) := by decide +kernel
theorem dX11_state_8 : decode cX11_state 8 = .ok (.astore 5, 2) := by decide +kernel
theorem dX11_state_10 : decode cX11_state 10 = .ok (.aload_n 0, 1) := by decide +kernel
theorem dX11_state_11 : decode cX11_state 11 = .ok (.getfield 10, 3) := by decide +kernel
theorem dX11_state_14 : decode cX11_state 14 = .ok (.iload_n 2, 1) := by decide +kernel
theorem dX11_state_15 : decode cX11_state 15 = .ok (.invokevirtual 104, 3) := by decide +kernel
theorem dX11_state_18 : decode cX11_state 18 = .ok (.astore 6, 2) := by decide +kernel
theorem dX11_state_20 : decode cX11_state 20 = .ok (.aload 5, 2) := by decide +kernel
theorem dX11_state_22 : decode cX11_state 22 = .ok (.ifnull 12, 3) := by decide +kernel
theorem dX11_state_25 : decode cX11_state 25 = .ok (.aload 6, 2) := by decide +kernel
theorem dX11_state_27 : decode cX11_state 27 = .ok (.ifnull 7, 3) := by decide +kernel
theorem dX11_state_30 : decode cX11_state 30 = .ok (.iload_n 3, 1) := by decide +kernel
theorem dX11_state_31 : decode cX11_state 31 = .ok (.ifCond .ge 5, 3) := by decide +kernel
theorem dX11_state_34 : decode cX11_state 34 = .ok (.iconst (-1), 1) := by decide +kernel
theorem dX11_state_35 : decode cX11_state 35 = .ok (.ireturn, 1) := by decide +kernel
theorem dX11_state_36 : decode cX11_state 36 = .ok (.aload_n 0, 1) := by decide +kernel
theorem dX11_state_37 : decode cX11_state 37 = .ok (.getfield 34, 3) := by decide +kernel
theorem dX11_state_40 : decode cX11_state 40 = .ok (.aload 5, 2) := by decide +kernel
theorem dX11_state_42 : decode cX11_state 42 = .ok (.aload 6, 2) := by decide +kernel
theorem dX11_state_44 : decode cX11_state 44 = .ok (.iload_n 3, 1) := by decide +kernel
theorem dX11_state_45 : decode cX11_state 45 = .ok (.invokevirtual 124, 3) := by decide +kernel
theorem dX11_state_48 : decode cX11_state 48 = .ok (.iload_n 3, 1) := by decide +kernel
theorem dX11_state_49 : decode cX11_state 49 = .ok (.if_icmp .ge 5, 3) := by decide +kernel
theorem dX11_state_52 : decode cX11_state 52 = .ok (.iconst (-1), 1) := by decide +kernel
theorem dX11_state_53 : decode cX11_state 53 = .ok (.ireturn, 1) := by decide +kernel
theorem dX11_state_54 : decode cX11_state 54 = .ok (.aload_n 0, 1) := by decide +kernel
theorem dX11_state_55 : decode cX11_state 55 = .ok (.getfield 34, 3) := by decide +kernel
theorem dX11_state_58 : decode cX11_state 58 = .ok (.iload 4, 2) := by decide +kernel
theorem dX11_state_60 : decode cX11_state 60 = .ok (.invokevirtual 128, 3) := by decide +kernel
theorem dX11_state_63 : decode cX11_state 63 = .ok (.ireturn, 1) := by decide +kernel
theorem dX11_keep_0 : decode cX11_keep 0 = .ok (.aload_n 0, 1) := by decide +kernel
theorem dX11_keep_1 : decode cX11_keep 1 = .ok (.getfield 10, 3) := by decide +kernel
theorem dX11_keep_4 : decode cX11_keep 4 = .ok (.iload_n 1, 1) := by decide +kernel
theorem dX11_keep_5 : decode cX11_keep 5 = .ok (.invokevirtual 85, 3) := by decide +kernel
theorem dX11_keep_8 : decode cX11_keep 8 = .ok (.astore_n 3, 1) := by decide +kernel
theorem dX11_keep_9 : decode cX11_keep 9 = .ok (.aload_n 3, 1) := by decide +kernel
theorem dX11_keep_10 : decode cX11_keep 10 = .ok (.ifnonnull 6, 3) := by decide +kernel
theorem dX11_keep_13 : decode cX11_keep 13 = .ok (.bipush (-2), 2) := by decide +kernel
theorem dX11_keep_15 : decode cX11_keep 15 = .ok (.ireturn, 1) := by decide +kernel
theorem dX11_keep_16 : decode cX11_keep 16 = .ok (.iload_n 2, 1) := by decide +kernel
theorem dX11_keep_17 : decode cX11_keep 17 = .ok (.bipush 10, 2) := by decide +kernel
theorem dX11_keep_19 : decode cX11_keep 19 = .ok (.if_icmp .lt 32, 3) := by decide +kernel
theorem dX11_keep_22 : decode cX11_keep 22 = .ok (.iload_n 2, 1) := by decide +kernel
theorem dX11_keep_23 : decode cX11_keep 23 = .ok (.bipush 10, 2) := by decide +kernel
theorem dX11_keep_25 : decode cX11_keep 25 = .ok (.isub, 1) := by decide +kernel
theorem dX11_keep_26 : decode cX11_keep 26 = .ok (.bipush 99, 2) := by decide +kernel
theorem dX11_keep_28 : decode cX11_keep 28 = .ok (.if_icmp .gt 23, 3) := by decide +kernel
theorem dX11_keep_31 : decode cX11_keep 31 = .ok (.aload_n 0, 1) := by decide +kernel
theorem dX11_keep_32 : decode cX11_keep 32 = .ok (.getfield 49, 3) := by decide +kernel
theorem dX11_keep_35 : decode cX11_keep 35 = .ok (.aload_n 3, 1) := by decide +kernel
theorem dX11_keep_36 : decode cX11_keep 36 = .ok (.invokevirtual 131, 3) := by decide +kernel
theorem dX11_keep_39 : decode cX11_keep 39 = .ok (.aload_n 0, 1) := by decide +kernel
theorem dX11_keep_40 : decode cX11_keep 40 = .ok (.getfield 49, 3) := by decide +kernel
theorem dX11_keep_43 : decode cX11_keep 43 = .ok (.iload_n 2, 1) := by decide +kernel
theorem dX11_keep_44 : decode cX11_keep 44 = .ok (.bipush 10, 2) := by decide +kernel
theorem dX11_keep_46 : decode cX11_keep 46 = .ok (.isub, 1) := by decide +kernel
theorem dX11_keep_47 : decode cX11_keep 47 = .ok (.invokevirtual 137, 3) := by decide +kernel
theorem dX11_keep_50 : decode cX11_keep 50 = .ok (.ireturn, 1) := by decide +kernel
theorem dX11_keep_51 : decode cX11_keep 51 = .ok (.iload_n 2, 1) := by decide +kernel
theorem dX11_keep_52 : decode cX11_keep 52 = .ok (.ifCond .lt 8, 3) := by decide +kernel
theorem dX11_keep_55 : decode cX11_keep 55 = .ok (.iload_n 2, 1) := by decide +kernel
theorem dX11_keep_56 : decode cX11_keep 56 = .ok (.iconst 5, 1) := by decide +kernel
theorem dX11_keep_57 : decode cX11_keep 57 = .ok (.if_icmp .le 6, 3) := by decide +kernel
theorem dX11_keep_60 : decode cX11_keep 60 = .ok (.bipush (-2), 2) := by decide +kernel
theorem dX11_keep_62 : decode cX11_keep 62 = .ok (.ireturn, 1) := by decide +kernel
theorem dX11_keep_63 : decode cX11_keep 63 = .ok (.aload_n 0, 1) := by decide +kernel
theorem dX11_keep_64 : decode cX11_keep 64 = .ok (.getfield 49, 3) := by decide +kernel
theorem dX11_keep_67 : decode cX11_keep 67 = .ok (.aload_n 3, 1) := by decide +kernel
theorem dX11_keep_68 : decode cX11_keep 68 = .ok (.invokevirtual 131, 3) := by decide +kernel
theorem dX11_keep_71 : decode cX11_keep 71 = .ok (.aload_n 0, 1) := by decide +kernel
theorem dX11_keep_72 : decode cX11_keep 72 = .ok (.getfield 49, 3) := by decide +kernel
theorem dX11_keep_75 : decode cX11_keep 75 = .ok (.iload_n 2, 1) := by decide +kernel
theorem dX11_keep_76 : decode cX11_keep 76 = .ok (.invokevirtual 140, 3) := by decide +kernel
theorem dX11_keep_79 : decode cX11_keep 79 = .ok (.ireturn, 1) := by decide +kernel
theorem dX11_need_0 : decode cX11_need 0 = .ok (.aload_n 0, 1) := by decide +kernel
theorem dX11_need_1 : decode cX11_need 1 = .ok (.getfield 10, 3) := by decide +kernel
theorem dX11_need_4 : decode cX11_need 4 = .ok (.iload_n 1, 1) := by decide +kernel
theorem dX11_need_5 : decode cX11_need 5 = .ok (.invokevirtual 85, 3) := by decide +kernel
theorem dX11_need_8 : decode cX11_need 8 = .ok (.astore_n 3, 1) := by decide +kernel
theorem dX11_need_9 : decode cX11_need 9 = .ok (.aload_n 3, 1) := by decide +kernel
theorem dX11_need_10 : decode cX11_need 10 = .ok (.ifnonnull 6, 3) := by decide +kernel
theorem dX11_need_13 : decode cX11_need 13 = .ok (.bipush (-2), 2) := by decide +kernel
theorem dX11_need_15 : decode cX11_need 15 = .ok (.ireturn, 1) := by decide +kernel
theorem dX11_need_16 : decode cX11_need 16 = .ok (.iload_n 2, 1) := by decide +kernel
theorem dX11_need_17 : decode cX11_need 17 = .ok (.tableswitch 123 0 6 #[43, 52, 61, 73, 82, 91, 107], 43) := by decide +kernel
theorem dX11_need_60 : decode cX11_need 60 = .ok (.aload_n 0, 1) := by decide +kernel
theorem dX11_need_61 : decode cX11_need 61 = .ok (.getfield 41, 3) := by decide +kernel
theorem dX11_need_64 : decode cX11_need 64 = .ok (.aload_n 3, 1) := by decide +kernel
theorem dX11_need_65 : decode cX11_need 65 = .ok (.invokevirtual 143, 3) := by decide +kernel
theorem dX11_need_68 : decode cX11_need 68 = .ok (.ireturn, 1) := by decide +kernel
theorem dX11_need_69 : decode cX11_need 69 = .ok (.aload_n 0, 1) := by decide +kernel
theorem dX11_need_70 : decode cX11_need 70 = .ok (.getfield 41, 3) := by decide +kernel
theorem dX11_need_73 : decode cX11_need 73 = .ok (.aload_n 3, 1) := by decide +kernel
theorem dX11_need_74 : decode cX11_need 74 = .ok (.invokevirtual 147, 3) := by decide +kernel
theorem dX11_need_77 : decode cX11_need 77 = .ok (.ireturn, 1) := by decide +kernel
theorem dX11_need_78 : decode cX11_need 78 = .ok (.aload_n 0, 1) := by decide +kernel
theorem dX11_need_79 : decode cX11_need 79 = .ok (.getfield 41, 3) := by decide +kernel
theorem dX11_need_82 : decode cX11_need 82 = .ok (.aload_n 3, 1) := by decide +kernel
theorem dX11_need_83 : decode cX11_need 83 = .ok (.invokevirtual 150, 3) := by decide +kernel
theorem dX11_need_86 : decode cX11_need 86 = .ok (.invokestatic 153, 3) := by decide +kernel
theorem dX11_need_89 : decode cX11_need 89 = .ok (.ireturn, 1) := by decide +kernel
theorem dX11_need_90 : decode cX11_need 90 = .ok (.aload_n 0, 1) := by decide +kernel
theorem dX11_need_91 : decode cX11_need 91 = .ok (.getfield 41, 3) := by decide +kernel
theorem dX11_need_94 : decode cX11_need 94 = .ok (.aload_n 3, 1) := by decide +kernel
theorem dX11_need_95 : decode cX11_need 95 = .ok (.invokevirtual 150, 3) := by decide +kernel
theorem dX11_need_98 : decode cX11_need 98 = .ok (.ireturn, 1) := by decide +kernel
theorem dX11_need_99 : decode cX11_need 99 = .ok (.aload_n 0, 1) := by decide +kernel
theorem dX11_need_100 : decode cX11_need 100 = .ok (.getfield 41, 3) := by decide +kernel
theorem dX11_need_103 : decode cX11_need 103 = .ok (.aload_n 3, 1) := by decide +kernel
theorem dX11_need_104 : decode cX11_need 104 = .ok (.invokevirtual 158, 3) := by decide +kernel
theorem dX11_need_107 : decode cX11_need 107 = .ok (.ireturn, 1) := by decide +kernel
theorem dX11_need_108 : decode cX11_need 108 = .ok (.aload_n 0, 1) := by decide +kernel
theorem dX11_need_109 : decode cX11_need 109 = .ok (.getfield 49, 3) := by decide +kernel
theorem dX11_need_112 : decode cX11_need 112 = .ok (.aload_n 3, 1) := by decide +kernel
theorem dX11_need_113 : decode cX11_need 113 = .ok (.invokevirtual 131, 3) := by decide +kernel
theorem dX11_need_116 : decode cX11_need 116 = .ok (.aload_n 0, 1) := by decide +kernel
theorem dX11_need_117 : decode cX11_need 117 = .ok (.getfield 49, 3) := by decide +kernel
theorem dX11_need_120 : decode cX11_need 120 = .ok (.invokevirtual 161, 3) := by decide +kernel
theorem dX11_need_123 : decode cX11_need 123 = .ok (.ireturn, 1) := by decide +kernel
theorem dX11_need_124 : decode cX11_need 124 = .ok (.aload_n 0, 1) := by decide +kernel
theorem dX11_need_125 : decode cX11_need 125 = .ok (.getfield 49, 3) := by decide +kernel
theorem dX11_need_128 : decode cX11_need 128 = .ok (.aload_n 3, 1) := by decide +kernel
theorem dX11_need_129 : decode cX11_need 129 = .ok (.invokevirtual 131, 3) := by decide +kernel
theorem dX11_need_132 : decode cX11_need 132 = .ok (.aload_n 0, 1) := by decide +kernel
theorem dX11_need_133 : decode cX11_need 133 = .ok (.getfield 49, 3) := by decide +kernel
theorem dX11_need_136 : decode cX11_need 136 = .ok (.invokevirtual 165, 3) := by decide +kernel
theorem dX11_need_139 : decode cX11_need 139 = .ok (.ireturn, 1) := by decide +kernel
theorem dX11_need_140 : decode cX11_need 140 = .ok (.aload_n 0, 1) := by decide +kernel
theorem dX11_need_141 : decode cX11_need 141 = .ok (.aload_n 3, 1) := by decide +kernel
theorem dX11_need_142 : decode cX11_need 142 = .ok (.iload_n 2, 1) := by decide +kernel
theorem dX11_need_143 : decode cX11_need 143 = .ok (.invokevirtual 168, 3) := by decide +kernel
theorem dX11_need_146 : decode cX11_need 146 = .ok (.ireturn, 1) := by decide +kernel
theorem dX11_behind_0 : decode cX11_behind 0 = .ok (.aload_n 0, 1) := by decide +kernel
theorem dX11_behind_1 : decode cX11_behind 1 = .ok (.getfield 10, 3) := by decide +kernel
theorem dX11_behind_4 : decode cX11_behind 4 = .ok (.iload_n 1, 1) := by decide +kernel
theorem dX11_behind_5 : decode cX11_behind 5 = .ok (.invokevirtual 85, 3) := by decide +kernel
theorem dX11_behind_8 : decode cX11_behind 8 = .ok (.astore 4, 2) := by decide +kernel
theorem dX11_behind_10 : decode cX11_behind 10 = .ok (.aload 4, 2) := by decide +kernel
theorem dX11_behind_12 : decode cX11_behind 12 = .ok (.ifnull 21, 3) := by decide +kernel
theorem dX11_behind_15 : decode cX11_behind 15 = .ok (.aload 4, 2) := by decide +kernel
theorem dX11_behind_17 : decode cX11_behind 17 = .ok (.iload_n 2, 1) := by decide +kernel
theorem dX11_behind_18 : decode cX11_behind 18 = .ok (.invokevirtual 172, 3) := by decide +kernel
theorem dX11_behind_21 : decode cX11_behind 21 = .ok (.ifCond .eq 12, 3) := by decide +kernel
theorem dX11_behind_24 : decode cX11_behind 24 = .ok (.iload_n 3, 1) := by decide +kernel
theorem dX11_behind_25 : decode cX11_behind 25 = .ok (.ifCond .lt 8, 3) := by decide +kernel
theorem dX11_behind_28 : decode cX11_behind 28 = .ok (.iload_n 3, 1) := by decide +kernel
theorem dX11_behind_29 : decode cX11_behind 29 = .ok (.iconst 2, 1) := by decide +kernel
theorem dX11_behind_30 : decode cX11_behind 30 = .ok (.if_icmp .le 6, 3) := by decide +kernel
theorem dX11_behind_33 : decode cX11_behind 33 = .ok (.bipush (-2), 2) := by decide +kernel
theorem dX11_behind_35 : decode cX11_behind 35 = .ok (.ireturn, 1) := by decide +kernel
theorem dX11_behind_36 : decode cX11_behind 36 = .ok (.aload_n 0, 1) := by decide +kernel
theorem dX11_behind_37 : decode cX11_behind 37 = .ok (.getfield 49, 3) := by decide +kernel
theorem dX11_behind_40 : decode cX11_behind 40 = .ok (.aload 4, 2) := by decide +kernel
theorem dX11_behind_42 : decode cX11_behind 42 = .ok (.invokevirtual 131, 3) := by decide +kernel
theorem dX11_behind_45 : decode cX11_behind 45 = .ok (.aload_n 0, 1) := by decide +kernel
theorem dX11_behind_46 : decode cX11_behind 46 = .ok (.getfield 49, 3) := by decide +kernel
theorem dX11_behind_49 : decode cX11_behind 49 = .ok (.iload_n 2, 1) := by decide +kernel
theorem dX11_behind_50 : decode cX11_behind 50 = .ok (.invokevirtual 173, 3) := by decide +kernel
theorem dX11_behind_53 : decode cX11_behind 53 = .ok (.istore 5, 2) := by decide +kernel
theorem dX11_behind_55 : decode cX11_behind 55 = .ok (.iload_n 3, 1) := by decide +kernel
theorem dX11_behind_56 : decode cX11_behind 56 = .ok (.ifCond .ne 15, 3) := by decide +kernel
theorem dX11_behind_59 : decode cX11_behind 59 = .ok (.iload 5, 2) := by decide +kernel
theorem dX11_behind_61 : decode cX11_behind 61 = .ok (.iconst (-1), 1) := by decide +kernel
theorem dX11_behind_62 : decode cX11_behind 62 = .ok (.if_icmp .ne 7, 3) := by decide +kernel
theorem dX11_behind_65 : decode cX11_behind 65 = .ok (.iconst 0, 1) := by decide +kernel
theorem dX11_behind_66 : decode cX11_behind 66 = .ok (.goto 4, 3) := by decide +kernel
theorem dX11_behind_69 : decode cX11_behind 69 = .ok (.iconst 1, 1) := by decide +kernel
theorem dX11_behind_70 : decode cX11_behind 70 = .ok (.ireturn, 1) := by decide +kernel
theorem dX11_behind_71 : decode cX11_behind 71 = .ok (.iload 5, 2) := by decide +kernel
theorem dX11_behind_73 : decode cX11_behind 73 = .ok (.iconst (-1), 1) := by decide +kernel
theorem dX11_behind_74 : decode cX11_behind 74 = .ok (.if_icmp .ne 6, 3) := by decide +kernel
theorem dX11_behind_77 : decode cX11_behind 77 = .ok (.bipush (-2), 2) := by decide +kernel
theorem dX11_behind_79 : decode cX11_behind 79 = .ok (.ireturn, 1) := by decide +kernel
theorem dX11_behind_80 : decode cX11_behind 80 = .ok (.iload_n 3, 1) := by decide +kernel
theorem dX11_behind_81 : decode cX11_behind 81 = .ok (.iconst 1, 1) := by decide +kernel
theorem dX11_behind_82 : decode cX11_behind 82 = .ok (.if_icmp .ne 21, 3) := by decide +kernel
theorem dX11_behind_85 : decode cX11_behind 85 = .ok (.aload_n 0, 1) := by decide +kernel
theorem dX11_behind_86 : decode cX11_behind 86 = .ok (.getfield 49, 3) := by decide +kernel
theorem dX11_behind_89 : decode cX11_behind 89 = .ok (.iload 5, 2) := by decide +kernel
theorem dX11_behind_91 : decode cX11_behind 91 = .ok (.invokevirtual 176, 3) := by decide +kernel
theorem dX11_behind_94 : decode cX11_behind 94 = .ok (.ifCond .eq 7, 3) := by decide +kernel
theorem dX11_behind_97 : decode cX11_behind 97 = .ok (.iconst 1, 1) := by decide +kernel
theorem dX11_behind_98 : decode cX11_behind 98 = .ok (.goto 4, 3) := by decide +kernel
theorem dX11_behind_101 : decode cX11_behind 101 = .ok (.iconst 0, 1) := by decide +kernel
theorem dX11_behind_102 : decode cX11_behind 102 = .ok (.ireturn, 1) := by decide +kernel
theorem dX11_behind_103 : decode cX11_behind 103 = .ok (.aload_n 0, 1) := by decide +kernel
theorem dX11_behind_104 : decode cX11_behind 104 = .ok (.getfield 49, 3) := by decide +kernel
theorem dX11_behind_107 : decode cX11_behind 107 = .ok (.iload 5, 2) := by decide +kernel
theorem dX11_behind_109 : decode cX11_behind 109 = .ok (.invokevirtual 179, 3) := by decide +kernel
theorem dX11_behind_112 : decode cX11_behind 112 = .ok (.ireturn, 1) := by decide +kernel
theorem dX11_save_0 : decode cX11_save 0 = .ok (.aload_n 0, 1) := by decide +kernel
theorem dX11_save_1 : decode cX11_save 1 = .ok (.getfield 10, 3) := by decide +kernel
theorem dX11_save_4 : decode cX11_save 4 = .ok (.iload_n 1, 1) := by decide +kernel
theorem dX11_save_5 : decode cX11_save 5 = .ok (.invokevirtual 85, 3) := by decide +kernel
theorem dX11_save_8 : decode cX11_save 8 = .ok (.astore 4, 2) := by decide +kernel
theorem dX11_save_10 : decode cX11_save 10 = .ok (.aload 4, 2) := by decide +kernel
theorem dX11_save_12 : decode cX11_save 12 = .ok (.ifnull 13, 3) := by decide +kernel
theorem dX11_save_15 : decode cX11_save 15 = .ok (.iload_n 2, 1) := by decide +kernel
theorem dX11_save_16 : decode cX11_save 16 = .ok (.ifCond .lt 9, 3) := by decide +kernel
theorem dX11_save_19 : decode cX11_save 19 = .ok (.iload_n 2, 1) := by decide +kernel
theorem dX11_save_20 : decode cX11_save 20 = .ok (.bipush 6, 2) := by decide +kernel
theorem dX11_save_22 : decode cX11_save 22 = .ok (.if_icmp .le 6, 3) := by decide +kernel
theorem dX11_save_25 : decode cX11_save 25 = .ok (.bipush (-9), 2) := by decide +kernel
theorem dX11_save_27 : decode cX11_save 27 = .ok (.ireturn, 1) := by decide +kernel
theorem dX11_save_28 : decode cX11_save 28 = .ok (.iload_n 3, 1) := by decide +kernel
theorem dX11_save_29 : decode cX11_save 29 = .ok (.ifCond .eq 9, 3) := by decide +kernel
theorem dX11_save_32 : decode cX11_save 32 = .ok (.iload_n 2, 1) := by decide +kernel
theorem dX11_save_33 : decode cX11_save 33 = .ok (.ifCond .ne 5, 3) := by decide +kernel
theorem dX11_save_36 : decode cX11_save 36 = .ok (.iconst (-1), 1) := by decide +kernel
theorem dX11_save_37 : decode cX11_save 37 = .ok (.ireturn, 1) := by decide +kernel
theorem dX11_save_38 : decode cX11_save 38 = .ok (.aload 4, 2) := by decide +kernel
theorem dX11_save_40 : decode cX11_save 40 = .ok (.iload_n 2, 1) := by decide +kernel
theorem dX11_save_41 : decode cX11_save 41 = .ok (.invokestatic 182, 3) := by decide +kernel
theorem dX11_save_44 : decode cX11_save 44 = .ok (.istore 5, 2) := by decide +kernel
theorem dX11_save_46 : decode cX11_save 46 = .ok (.iload_n 3, 1) := by decide +kernel
theorem dX11_save_47 : decode cX11_save 47 = .ok (.ifCond .eq 11, 3) := by decide +kernel
theorem dX11_save_50 : decode cX11_save 50 = .ok (.iload 5, 2) := by decide +kernel
theorem dX11_save_52 : decode cX11_save 52 = .ok (.invokestatic 187, 3) := by decide +kernel
theorem dX11_save_55 : decode cX11_save 55 = .ok (.goto 8, 3) := by decide +kernel
theorem dX11_save_58 : decode cX11_save 58 = .ok (.iload 5, 2) := by decide +kernel
theorem dX11_save_60 : decode cX11_save 60 = .ok (.invokestatic 190, 3) := by decide +kernel
theorem dX11_save_63 : decode cX11_save 63 = .ok (.ireturn, 1) := by decide +kernel
theorem dX11_duel_0 : decode cX11_duel 0 = .ok (.aload_n 0, 1) := by decide +kernel
theorem dX11_duel_1 : decode cX11_duel 1 = .ok (.getfield 10, 3) := by decide +kernel
theorem dX11_duel_4 : decode cX11_duel 4 = .ok (.iload_n 1, 1) := by decide +kernel
theorem dX11_duel_5 : decode cX11_duel 5 = .ok (.invokevirtual 85, 3) := by decide +kernel
theorem dX11_duel_8 : decode cX11_duel 8 = .ok (.astore 4, 2) := by decide +kernel
theorem dX11_duel_10 : decode cX11_duel 10 = .ok (.aload 4, 2) := by decide +kernel
theorem dX11_duel_12 : decode cX11_duel 12 = .ok (.ifnull 12, 3) := by decide +kernel
theorem dX11_duel_15 : decode cX11_duel 15 = .ok (.iload_n 2, 1) := by decide +kernel
theorem dX11_duel_16 : decode cX11_duel 16 = .ok (.ifCond .lt 8, 3) := by decide +kernel
theorem dX11_duel_19 : decode cX11_duel 19 = .ok (.iload_n 2, 1) := by decide +kernel
theorem dX11_duel_20 : decode cX11_duel 20 = .ok (.iconst 3, 1) := by decide +kernel
theorem dX11_duel_21 : decode cX11_duel 21 = .ok (.if_icmp .le 6, 3) := by decide +kernel
theorem dX11_duel_24 : decode cX11_duel 24 = .ok (.bipush (-9), 2) := by decide +kernel
theorem dX11_duel_26 : decode cX11_duel 26 = .ok (.ireturn, 1) := by decide +kernel
theorem dX11_duel_27 : decode cX11_duel 27 = .ok (.iload_n 3, 1) := by decide +kernel
theorem dX11_duel_28 : decode cX11_duel 28 = .ok (.ifCond .eq 9, 3) := by decide +kernel
theorem dX11_duel_31 : decode cX11_duel 31 = .ok (.iload_n 2, 1) := by decide +kernel
theorem dX11_duel_32 : decode cX11_duel 32 = .ok (.ifCond .ne 5, 3) := by decide +kernel
theorem dX11_duel_35 : decode cX11_duel 35 = .ok (.iconst (-1), 1) := by decide +kernel
theorem dX11_duel_36 : decode cX11_duel 36 = .ok (.ireturn, 1) := by decide +kernel
theorem dX11_duel_37 : decode cX11_duel 37 = .ok (.aload 4, 2) := by decide +kernel
theorem dX11_duel_39 : decode cX11_duel 39 = .ok (.iload_n 2, 1) := by decide +kernel
theorem dX11_duel_40 : decode cX11_duel 40 = .ok (.invokestatic 193, 3) := by decide +kernel
theorem dX11_duel_43 : decode cX11_duel 43 = .ok (.istore 5, 2) := by decide +kernel
theorem dX11_duel_45 : decode cX11_duel 45 = .ok (.iload_n 3, 1) := by decide +kernel
theorem dX11_duel_46 : decode cX11_duel 46 = .ok (.ifCond .eq 11, 3) := by decide +kernel
theorem dX11_duel_49 : decode cX11_duel 49 = .ok (.iload 5, 2) := by decide +kernel
theorem dX11_duel_51 : decode cX11_duel 51 = .ok (.invokestatic 187, 3) := by decide +kernel
theorem dX11_duel_54 : decode cX11_duel 54 = .ok (.goto 8, 3) := by decide +kernel
theorem dX11_duel_57 : decode cX11_duel 57 = .ok (.iload 5, 2) := by decide +kernel
theorem dX11_duel_59 : decode cX11_duel 59 = .ok (.invokestatic 190, 3) := by decide +kernel
theorem dX11_duel_62 : decode cX11_duel 62 = .ok (.ireturn, 1) := by decide +kernel
theorem dX11_odds_0 : decode cX11_odds 0 = .ok (.aload_n 0, 1) := by decide +kernel
theorem dX11_odds_1 : decode cX11_odds 1 = .ok (.getfield 10, 3) := by decide +kernel
theorem dX11_odds_4 : decode cX11_odds 4 = .ok (.iload_n 1, 1) := by decide +kernel
theorem dX11_odds_5 : decode cX11_odds 5 = .ok (.invokevirtual 85, 3) := by decide +kernel
theorem dX11_odds_8 : decode cX11_odds 8 = .ok (.astore 6, 2) := by decide +kernel
theorem dX11_odds_10 : decode cX11_odds 10 = .ok (.aload 6, 2) := by decide +kernel
theorem dX11_odds_12 : decode cX11_odds 12 = .ok (.ifnull 12, 3) := by decide +kernel
theorem dX11_odds_15 : decode cX11_odds 15 = .ok (.aload 6, 2) := by decide +kernel
theorem dX11_odds_17 : decode cX11_odds 17 = .ok (.iload_n 2, 1) := by decide +kernel
theorem dX11_odds_18 : decode cX11_odds 18 = .ok (.invokevirtual 172, 3) := by decide +kernel
theorem dX11_odds_21 : decode cX11_odds 21 = .ok (.ifCond .ne 5, 3) := by decide +kernel
theorem dX11_odds_24 : decode cX11_odds 24 = .ok (.iconst (-1), 1) := by decide +kernel
theorem dX11_odds_25 : decode cX11_odds 25 = .ok (.ireturn, 1) := by decide +kernel
theorem dX11_odds_26 : decode cX11_odds 26 = .ok (.iload_n 3, 1) := by decide +kernel
theorem dX11_odds_27 : decode cX11_odds 27 = .ok (.ifCond .lt 21, 3) := by decide +kernel
theorem dX11_odds_30 : decode cX11_odds 30 = .ok (.iload_n 3, 1) := by decide +kernel
theorem dX11_odds_31 : decode cX11_odds 31 = .ok (.bipush 10, 2) := by decide +kernel
theorem dX11_odds_33 : decode cX11_odds 33 = .ok (.if_icmp .gt 15, 3) := by decide +kernel
theorem dX11_odds_36 : decode cX11_odds 36 = .ok (.iload 4, 2) := by decide +kernel
theorem dX11_odds_38 : decode cX11_odds 38 = .ok (.ifCond .lt 10, 3) := by decide +kernel
theorem dX11_odds_41 : decode cX11_odds 41 = .ok (.iload 4, 2) := by decide +kernel
theorem dX11_odds_43 : decode cX11_odds 43 = .ok (.bipush 6, 2) := by decide +kernel
theorem dX11_odds_45 : decode cX11_odds 45 = .ok (.if_icmp .le 5, 3) := by decide +kernel
theorem dX11_odds_48 : decode cX11_odds 48 = .ok (.iconst (-1), 1) := by decide +kernel
theorem dX11_odds_49 : decode cX11_odds 49 = .ok (.ireturn, 1) := by decide +kernel
theorem dX11_odds_50 : decode cX11_odds 50 = .ok (.aload 6, 2) := by decide +kernel
theorem dX11_odds_52 : decode cX11_odds 52 = .ok (.getfield 196, 3) := by decide +kernel
theorem dX11_odds_55 : decode cX11_odds 55 = .ok (.iload_n 2, 1) := by decide +kernel
theorem dX11_odds_56 : decode cX11_odds 56 = .ok (.iaload, 1) := by decide +kernel
theorem dX11_odds_57 : decode cX11_odds 57 = .ok (.iload_n 3, 1) := by decide +kernel
theorem dX11_odds_58 : decode cX11_odds 58 = .ok (.iload 4, 2) := by decide +kernel
theorem dX11_odds_60 : decode cX11_odds 60 = .ok (.invokestatic 199, 3) := by decide +kernel
theorem dX11_odds_63 : decode cX11_odds 63 = .ok (.istore 7, 2) := by decide +kernel
theorem dX11_odds_65 : decode cX11_odds 65 = .ok (.bipush 10, 2) := by decide +kernel
theorem dX11_odds_67 : decode cX11_odds 67 = .ok (.iload 4, 2) := by decide +kernel
theorem dX11_odds_69 : decode cX11_odds 69 = .ok (.invokestatic 203, 3) := by decide +kernel
theorem dX11_odds_72 : decode cX11_odds 72 = .ok (.istore 8, 2) := by decide +kernel
theorem dX11_odds_74 : decode cX11_odds 74 = .ok (.iload 7, 2) := by decide +kernel
theorem dX11_odds_76 : decode cX11_odds 76 = .ok (.iload 8, 2) := by decide +kernel
theorem dX11_odds_78 : decode cX11_odds 78 = .ok (.invokestatic 206, 3) := by decide +kernel
theorem dX11_odds_81 : decode cX11_odds 81 = .ok (.istore 9, 2) := by decide +kernel
theorem dX11_odds_83 : decode cX11_odds 83 = .ok (.iload 5, 2) := by decide +kernel
theorem dX11_odds_85 : decode cX11_odds 85 = .ok (.ifCond .eq 8, 3) := by decide +kernel
theorem dX11_odds_88 : decode cX11_odds 88 = .ok (.iload 8, 2) := by decide +kernel
theorem dX11_odds_90 : decode cX11_odds 90 = .ok (.goto 5, 3) := by decide +kernel
theorem dX11_odds_93 : decode cX11_odds 93 = .ok (.iload 7, 2) := by decide +kernel
theorem dX11_odds_95 : decode cX11_odds 95 = .ok (.iconst 1, 1) := by decide +kernel
theorem dX11_odds_96 : decode cX11_odds 96 = .ok (.iload 9, 2) := by decide +kernel
theorem dX11_odds_98 : decode cX11_odds 98 = .ok (.invokestatic 209, 3) := by decide +kernel
theorem dX11_odds_101 : decode cX11_odds 101 = .ok (.idiv, 1) := by decide +kernel
theorem dX11_odds_102 : decode cX11_odds 102 = .ok (.ireturn, 1) := by decide +kernel
theorem dX11_log_0 : decode cX11_log 0 = .ok (.aload_n 0, 1) := by decide +kernel
theorem dX11_log_1 : decode cX11_log 1 = .ok (.getfield 10, 3) := by decide +kernel
theorem dX11_log_4 : decode cX11_log 4 = .ok (.iload_n 1, 1) := by decide +kernel
theorem dX11_log_5 : decode cX11_log 5 = .ok (.invokevirtual 214, 3) := by decide +kernel
theorem dX11_log_8 : decode cX11_log 8 = .ok (.astore_n 3, 1) := by decide +kernel
theorem dX11_log_9 : decode cX11_log 9 = .ok (.aload_n 3, 1) := by decide +kernel
theorem dX11_log_10 : decode cX11_log 10 = .ok (.ifnonnull 5, 3) := by decide +kernel
theorem dX11_log_13 : decode cX11_log 13 = .ok (.iconst (-1), 1) := by decide +kernel
theorem dX11_log_14 : decode cX11_log 14 = .ok (.ireturn, 1) := by decide +kernel
theorem dX11_log_15 : decode cX11_log 15 = .ok (.iload_n 2, 1) := by decide +kernel
theorem dX11_log_16 : decode cX11_log 16 = .ok (.lookupswitch 38 #[(0, 28), (1, 33)], 28) := by decide +kernel
theorem dX11_log_44 : decode cX11_log 44 = .ok (.aload_n 3, 1) := by decide +kernel
theorem dX11_log_45 : decode cX11_log 45 = .ok (.getfield 218, 3) := by decide +kernel
theorem dX11_log_48 : decode cX11_log 48 = .ok (.ireturn, 1) := by decide +kernel
theorem dX11_log_49 : decode cX11_log 49 = .ok (.aload_n 3, 1) := by decide +kernel
theorem dX11_log_50 : decode cX11_log 50 = .ok (.getfield 223, 3) := by decide +kernel
theorem dX11_log_53 : decode cX11_log 53 = .ok (.ireturn, 1) := by decide +kernel
theorem dX11_log_54 : decode cX11_log 54 = .ok (.aload_n 3, 1) := by decide +kernel
theorem dX11_log_55 : decode cX11_log 55 = .ok (.iload_n 2, 1) := by decide +kernel
theorem dX11_log_56 : decode cX11_log 56 = .ok (.invokevirtual 226, 3) := by decide +kernel
theorem dX11_log_59 : decode cX11_log 59 = .ok (.ireturn, 1) := by decide +kernel
theorem dX11_fits_0 : decode cX11_fits 0 = .ok (.aload_n 0, 1) := by decide +kernel
theorem dX11_fits_1 : decode cX11_fits 1 = .ok (.getfield 10, 3) := by decide +kernel
theorem dX11_fits_4 : decode cX11_fits 4 = .ok (.iload_n 1, 1) := by decide +kernel
theorem dX11_fits_5 : decode cX11_fits 5 = .ok (.invokevirtual 85, 3) := by decide +kernel
theorem dX11_fits_8 : decode cX11_fits 8 = .ok (.astore 4, 2) := by decide +kernel
theorem dX11_fits_10 : decode cX11_fits 10 = .ok (.aload_n 0, 1) := by decide +kernel
theorem dX11_fits_11 : decode cX11_fits 11 = .ok (.getfield 10, 3) := by decide +kernel
theorem dX11_fits_14 : decode cX11_fits 14 = .ok (.iload_n 2, 1) := by decide +kernel
theorem dX11_fits_15 : decode cX11_fits 15 = .ok (.invokevirtual 214, 3) := by decide +kernel
theorem dX11_fits_18 : decode cX11_fits 18 = .ok (.astore 5, 2) := by decide +kernel
theorem dX11_fits_20 : decode cX11_fits 20 = .ok (.aload 4, 2) := by decide +kernel
theorem dX11_fits_22 : decode cX11_fits 22 = .ok (.ifnull 12, 3) := by decide +kernel
theorem dX11_fits_25 : decode cX11_fits 25 = .ok (.aload 5, 2) := by decide +kernel
theorem dX11_fits_27 : decode cX11_fits 27 = .ok (.ifnull 7, 3) := by decide +kernel
theorem dX11_fits_30 : decode cX11_fits 30 = .ok (.iload_n 3, 1) := by decide +kernel
theorem dX11_fits_31 : decode cX11_fits 31 = .ok (.ifCond .ge 6, 3) := by decide +kernel
theorem dX11_fits_34 : decode cX11_fits 34 = .ok (.bipush (-2), 2) := by decide +kernel
theorem dX11_fits_36 : decode cX11_fits 36 = .ok (.ireturn, 1) := by decide +kernel
theorem dX11_fits_37 : decode cX11_fits 37 = .ok (.iload_n 3, 1) := by decide +kernel
theorem dX11_fits_38 : decode cX11_fits 38 = .ok (.iconst 5, 1) := by decide +kernel
theorem dX11_fits_39 : decode cX11_fits 39 = .ok (.if_icmp .le 12, 3) := by decide +kernel
theorem dX11_fits_42 : decode cX11_fits 42 = .ok (.iload_n 3, 1) := by decide +kernel
theorem dX11_fits_43 : decode cX11_fits 43 = .ok (.bipush 10, 2) := by decide +kernel
theorem dX11_fits_45 : decode cX11_fits 45 = .ok (.if_icmp .ge 6, 3) := by decide +kernel
theorem dX11_fits_48 : decode cX11_fits 48 = .ok (.bipush (-2), 2) := by decide +kernel
theorem dX11_fits_50 : decode cX11_fits 50 = .ok (.ireturn, 1) := by decide +kernel
theorem dX11_fits_51 : decode cX11_fits 51 = .ok (.aload_n 0, 1) := by decide +kernel
theorem dX11_fits_52 : decode cX11_fits 52 = .ok (.getfield 53, 3) := by decide +kernel
theorem dX11_fits_55 : decode cX11_fits 55 = .ok (.aload 4, 2) := by decide +kernel
theorem dX11_fits_57 : decode cX11_fits 57 = .ok (.aload 5, 2) := by decide +kernel
theorem dX11_fits_59 : decode cX11_fits 59 = .ok (.iload_n 3, 1) := by decide +kernel
theorem dX11_fits_60 : decode cX11_fits 60 = .ok (.bipush 10, 2) := by decide +kernel
theorem dX11_fits_62 : decode cX11_fits 62 = .ok (.isub, 1) := by decide +kernel
theorem dX11_fits_63 : decode cX11_fits 63 = .ok (.invokevirtual 229, 3) := by decide +kernel
theorem dX11_fits_66 : decode cX11_fits 66 = .ok (.iload_n 3, 1) := by decide +kernel
theorem dX11_fits_67 : decode cX11_fits 67 = .ok (.ifCond .ne 11, 3) := by decide +kernel
theorem dX11_fits_70 : decode cX11_fits 70 = .ok (.aload_n 0, 1) := by decide +kernel
theorem dX11_fits_71 : decode cX11_fits 71 = .ok (.getfield 53, 3) := by decide +kernel
theorem dX11_fits_74 : decode cX11_fits 74 = .ok (.getfield 233, 3) := by decide +kernel
theorem dX11_fits_77 : decode cX11_fits 77 = .ok (.ireturn, 1) := by decide +kernel
theorem dX11_fits_78 : decode cX11_fits 78 = .ok (.iload_n 3, 1) := by decide +kernel
theorem dX11_fits_79 : decode cX11_fits 79 = .ok (.iconst 1, 1) := by decide +kernel
theorem dX11_fits_80 : decode cX11_fits 80 = .ok (.if_icmp .ne 16, 3) := by decide +kernel
theorem dX11_fits_83 : decode cX11_fits 83 = .ok (.aload_n 0, 1) := by decide +kernel
theorem dX11_fits_84 : decode cX11_fits 84 = .ok (.getfield 53, 3) := by decide +kernel
theorem dX11_fits_87 : decode cX11_fits 87 = .ok (.aload 4, 2) := by decide +kernel
theorem dX11_fits_89 : decode cX11_fits 89 = .ok (.getfield 97, 3) := by decide +kernel
theorem dX11_fits_92 : decode cX11_fits 92 = .ok (.invokevirtual 236, 3) := by decide +kernel
theorem dX11_fits_95 : decode cX11_fits 95 = .ok (.ireturn, 1) := by decide +kernel
theorem dX11_fits_96 : decode cX11_fits 96 = .ok (.iload_n 3, 1) := by decide +kernel
theorem dX11_fits_97 : decode cX11_fits 97 = .ok (.bipush 10, 2) := by decide +kernel
theorem dX11_fits_99 : decode cX11_fits 99 = .ok (.if_icmp .ge 16, 3) := by decide +kernel
theorem dX11_fits_102 : decode cX11_fits 102 = .ok (.aload_n 0, 1) := by decide +kernel
theorem dX11_fits_103 : decode cX11_fits 103 = .ok (.getfield 53, 3) := by decide +kernel
theorem dX11_fits_106 : decode cX11_fits 106 = .ok (.iload_n 3, 1) := by decide +kernel
theorem dX11_fits_107 : decode cX11_fits 107 = .ok (.iconst 2, 1) := by decide +kernel
theorem dX11_fits_108 : decode cX11_fits 108 = .ok (.isub, 1) := by decide +kernel
theorem dX11_fits_109 : decode cX11_fits 109 = .ok (.invokevirtual 239, 3) := by decide +kernel
theorem dX11_fits_112 : decode cX11_fits 112 = .ok (.goto 10, 3) := by decide +kernel
theorem dX11_fits_115 : decode cX11_fits 115 = .ok (.aload_n 0, 1) := by decide +kernel
theorem dX11_fits_116 : decode cX11_fits 116 = .ok (.getfield 53, 3) := by decide +kernel
theorem dX11_fits_119 : decode cX11_fits 119 = .ok (.getfield 242, 3) := by decide +kernel
theorem dX11_fits_122 : decode cX11_fits 122 = .ok (.ireturn, 1) := by decide +kernel
theorem dX11_drawn_0 : decode cX11_drawn 0 = .ok (.aload_n 0, 1) := by decide +kernel
theorem dX11_drawn_1 : decode cX11_drawn 1 = .ok (.getfield 10, 3) := by decide +kernel
theorem dX11_drawn_4 : decode cX11_drawn 4 = .ok (.iload_n 1, 1) := by decide +kernel
theorem dX11_drawn_5 : decode cX11_drawn 5 = .ok (.invokevirtual 85, 3) := by decide +kernel
theorem dX11_drawn_8 : decode cX11_drawn 8 = .ok (.astore 5, 2) := by decide +kernel
theorem dX11_drawn_10 : decode cX11_drawn 10 = .ok (.aload 5, 2) := by decide +kernel
theorem dX11_drawn_12 : decode cX11_drawn 12 = .ok (.ifnull 13, 3) := by decide +kernel
theorem dX11_drawn_15 : decode cX11_drawn 15 = .ok (.iload_n 3, 1) := by decide +kernel
theorem dX11_drawn_16 : decode cX11_drawn 16 = .ok (.ifCond .lt 9, 3) := by decide +kernel
theorem dX11_drawn_19 : decode cX11_drawn 19 = .ok (.iload_n 3, 1) := by decide +kernel
theorem dX11_drawn_20 : decode cX11_drawn 20 = .ok (.bipush 60, 2) := by decide +kernel
theorem dX11_drawn_22 : decode cX11_drawn 22 = .ok (.if_icmp .le 5, 3) := by decide +kernel
theorem dX11_drawn_25 : decode cX11_drawn 25 = .ok (.iconst (-1), 1) := by decide +kernel
theorem dX11_drawn_26 : decode cX11_drawn 26 = .ok (.ireturn, 1) := by decide +kernel
theorem dX11_drawn_27 : decode cX11_drawn 27 = .ok (.aload_n 0, 1) := by decide +kernel
theorem dX11_drawn_28 : decode cX11_drawn 28 = .ok (.getfield 34, 3) := by decide +kernel
theorem dX11_drawn_31 : decode cX11_drawn 31 = .ok (.aload 5, 2) := by decide +kernel
theorem dX11_drawn_33 : decode cX11_drawn 33 = .ok (.iload_n 2, 1) := by decide +kernel
theorem dX11_drawn_34 : decode cX11_drawn 34 = .ok (.iload_n 3, 1) := by decide +kernel
theorem dX11_drawn_35 : decode cX11_drawn 35 = .ok (.invokevirtual 245, 3) := by decide +kernel
theorem dX11_drawn_38 : decode cX11_drawn 38 = .ok (.aload_n 0, 1) := by decide +kernel
theorem dX11_drawn_39 : decode cX11_drawn 39 = .ok (.getfield 34, 3) := by decide +kernel
theorem dX11_drawn_42 : decode cX11_drawn 42 = .ok (.iload 4, 2) := by decide +kernel
theorem dX11_drawn_44 : decode cX11_drawn 44 = .ok (.invokevirtual 128, 3) := by decide +kernel
theorem dX11_drawn_47 : decode cX11_drawn 47 = .ok (.ireturn, 1) := by decide +kernel
theorem dX11_load_0 : decode cX11_load 0 = .ok (.aload_n 0, 1) := by decide +kernel
theorem dX11_load_1 : decode cX11_load 1 = .ok (.getfield 10, 3) := by decide +kernel
theorem dX11_load_4 : decode cX11_load 4 = .ok (.iload_n 1, 1) := by decide +kernel
theorem dX11_load_5 : decode cX11_load 5 = .ok (.invokevirtual 85, 3) := by decide +kernel
theorem dX11_load_8 : decode cX11_load 8 = .ok (.astore_n 3, 1) := by decide +kernel
theorem dX11_load_9 : decode cX11_load 9 = .ok (.aload_n 3, 1) := by decide +kernel
theorem dX11_load_10 : decode cX11_load 10 = .ok (.ifnonnull 6, 3) := by decide +kernel
theorem dX11_load_13 : decode cX11_load 13 = .ok (.bipush (-2), 2) := by decide +kernel
theorem dX11_load_15 : decode cX11_load 15 = .ok (.ireturn, 1) := by decide +kernel
theorem dX11_load_16 : decode cX11_load 16 = .ok (.iload_n 2, 1) := by decide +kernel
theorem dX11_load_17 : decode cX11_load 17 = .ok (.tableswitch 182 0 12 #[67, 73, 79, 99, 104, 109, 118, 127, 132, 154, 159, 164, 173], 67) := by decide +kernel
theorem dX11_load_84 : decode cX11_load 84 = .ok (.aload_n 3, 1) := by decide +kernel
theorem dX11_load_85 : decode cX11_load 85 = .ok (.iconst 0, 1) := by decide +kernel
theorem dX11_load_86 : decode cX11_load 86 = .ok (.invokevirtual 249, 3) := by decide +kernel
theorem dX11_load_89 : decode cX11_load 89 = .ok (.ireturn, 1) := by decide +kernel
theorem dX11_load_90 : decode cX11_load 90 = .ok (.aload_n 3, 1) := by decide +kernel
theorem dX11_load_91 : decode cX11_load 91 = .ok (.iconst 1, 1) := by decide +kernel
theorem dX11_load_92 : decode cX11_load 92 = .ok (.invokevirtual 249, 3) := by decide +kernel
theorem dX11_load_95 : decode cX11_load 95 = .ok (.ireturn, 1) := by decide +kernel
theorem dX11_load_96 : decode cX11_load 96 = .ok (.aload_n 3, 1) := by decide +kernel
theorem dX11_load_97 : decode cX11_load 97 = .ok (.getfield 97, 3) := by decide +kernel
theorem dX11_load_100 : decode cX11_load 100 = .ok (.ifCond .ne 7, 3) := by decide +kernel
theorem dX11_load_103 : decode cX11_load 103 = .ok (.iconst (-1), 1) := by decide +kernel
theorem dX11_load_104 : decode cX11_load 104 = .ok (.goto 11, 3) := by decide +kernel
theorem dX11_load_107 : decode cX11_load 107 = .ok (.aload_n 3, 1) := by decide +kernel
theorem dX11_load_108 : decode cX11_load 108 = .ok (.aload_n 3, 1) := by decide +kernel
theorem dX11_load_109 : decode cX11_load 109 = .ok (.invokevirtual 253, 3) := by decide +kernel
theorem dX11_load_112 : decode cX11_load 112 = .ok (.invokestatic 256, 3) := by decide +kernel
theorem dX11_load_115 : decode cX11_load 115 = .ok (.ireturn, 1) := by decide +kernel
theorem dX11_load_116 : decode cX11_load 116 = .ok (.aload_n 3, 1) := by decide +kernel
theorem dX11_load_117 : decode cX11_load 117 = .ok (.invokevirtual 261, 3) := by decide +kernel
theorem dX11_load_120 : decode cX11_load 120 = .ok (.ireturn, 1) := by decide +kernel
theorem dX11_load_121 : decode cX11_load 121 = .ok (.aload_n 3, 1) := by decide +kernel
theorem dX11_load_122 : decode cX11_load 122 = .ok (.invokevirtual 264, 3) := by decide +kernel
theorem dX11_load_125 : decode cX11_load 125 = .ok (.ireturn, 1) := by decide +kernel
theorem dX11_load_126 : decode cX11_load 126 = .ok (.aload_n 0, 1) := by decide +kernel
theorem dX11_load_127 : decode cX11_load 127 = .ok (.getfield 41, 3) := by decide +kernel
theorem dX11_load_130 : decode cX11_load 130 = .ok (.aload_n 3, 1) := by decide +kernel
theorem dX11_load_131 : decode cX11_load 131 = .ok (.invokevirtual 267, 3) := by decide +kernel
theorem dX11_load_134 : decode cX11_load 134 = .ok (.ireturn, 1) := by decide +kernel
theorem dX11_load_135 : decode cX11_load 135 = .ok (.aload_n 0, 1) := by decide +kernel
theorem dX11_load_136 : decode cX11_load 136 = .ok (.getfield 41, 3) := by decide +kernel
theorem dX11_load_139 : decode cX11_load 139 = .ok (.aload_n 3, 1) := by decide +kernel
theorem dX11_load_140 : decode cX11_load 140 = .ok (.invokevirtual 270, 3) := by decide +kernel
theorem dX11_load_143 : decode cX11_load 143 = .ok (.ireturn, 1) := by decide +kernel
theorem dX11_load_144 : decode cX11_load 144 = .ok (.aload_n 3, 1) := by decide +kernel
theorem dX11_load_145 : decode cX11_load 145 = .ok (.invokevirtual 273, 3) := by decide +kernel
theorem dX11_load_148 : decode cX11_load 148 = .ok (.ireturn, 1) := by decide +kernel
theorem dX11_load_149 : decode cX11_load 149 = .ok (.aload_n 3, 1) := by decide +kernel
theorem dX11_load_150 : decode cX11_load 150 = .ok (.invokestatic 276, 3) := by decide +kernel
theorem dX11_load_153 : decode cX11_load 153 = .ok (.bipush 99, 2) := by decide +kernel
theorem dX11_load_155 : decode cX11_load 155 = .ok (.if_icmp .eq 10, 3) := by decide +kernel
theorem dX11_load_158 : decode cX11_load 158 = .ok (.aload_n 3, 1) := by decide +kernel
theorem dX11_load_159 : decode cX11_load 159 = .ok (.getfield 97, 3) := by decide +kernel
theorem dX11_load_162 : decode cX11_load 162 = .ok (.ifCond .ne 7, 3) := by decide +kernel
theorem dX11_load_165 : decode cX11_load 165 = .ok (.iconst 1, 1) := by decide +kernel
theorem dX11_load_166 : decode cX11_load 166 = .ok (.goto 4, 3) := by decide +kernel
theorem dX11_load_169 : decode cX11_load 169 = .ok (.iconst 0, 1) := by decide +kernel
theorem dX11_load_170 : decode cX11_load 170 = .ok (.ireturn, 1) := by decide +kernel
theorem dX11_load_171 : decode cX11_load 171 = .ok (.aload_n 3, 1) := by decide +kernel
theorem dX11_load_172 : decode cX11_load 172 = .ok (.invokestatic 276, 3) := by decide +kernel
theorem dX11_load_175 : decode cX11_load 175 = .ok (.ireturn, 1) := by decide +kernel
theorem dX11_load_176 : decode cX11_load 176 = .ok (.aload_n 3, 1) := by decide +kernel
theorem dX11_load_177 : decode cX11_load 177 = .ok (.invokevirtual 279, 3) := by decide +kernel
theorem dX11_load_180 : decode cX11_load 180 = .ok (.ireturn, 1) := by decide +kernel
theorem dX11_load_181 : decode cX11_load 181 = .ok (.aload_n 3, 1) := by decide +kernel
theorem dX11_load_182 : decode cX11_load 182 = .ok (.aload_n 3, 1) := by decide +kernel
theorem dX11_load_183 : decode cX11_load 183 = .ok (.invokevirtual 279, 3) := by decide +kernel
theorem dX11_load_186 : decode cX11_load 186 = .ok (.invokevirtual 282, 3) := by decide +kernel
theorem dX11_load_189 : decode cX11_load 189 = .ok (.ireturn, 1) := by decide +kernel
theorem dX11_load_190 : decode cX11_load 190 = .ok (.aload_n 0, 1) := by decide +kernel
theorem dX11_load_191 : decode cX11_load 191 = .ok (.getfield 41, 3) := by decide +kernel
theorem dX11_load_194 : decode cX11_load 194 = .ok (.aload_n 3, 1) := by decide +kernel
theorem dX11_load_195 : decode cX11_load 195 = .ok (.invokevirtual 285, 3) := by decide +kernel
theorem dX11_load_198 : decode cX11_load 198 = .ok (.ireturn, 1) := by decide +kernel
theorem dX11_load_199 : decode cX11_load 199 = .ok (.iload_n 2, 1) := by decide +kernel
theorem dX11_load_200 : decode cX11_load 200 = .ok (.bipush 20, 2) := by decide +kernel
theorem dX11_load_202 : decode cX11_load 202 = .ok (.if_icmp .lt 14, 3) := by decide +kernel
theorem dX11_load_205 : decode cX11_load 205 = .ok (.aload_n 3, 1) := by decide +kernel
theorem dX11_load_206 : decode cX11_load 206 = .ok (.iload_n 2, 1) := by decide +kernel
theorem dX11_load_207 : decode cX11_load 207 = .ok (.bipush 20, 2) := by decide +kernel
theorem dX11_load_209 : decode cX11_load 209 = .ok (.isub, 1) := by decide +kernel
theorem dX11_load_210 : decode cX11_load 210 = .ok (.invokevirtual 288, 3) := by decide +kernel
theorem dX11_load_213 : decode cX11_load 213 = .ok (.goto 5, 3) := by decide +kernel
theorem dX11_load_216 : decode cX11_load 216 = .ok (.bipush (-2), 2) := by decide +kernel
theorem dX11_load_218 : decode cX11_load 218 = .ok (.ireturn, 1) := by decide +kernel
theorem dX11_after_0 : decode cX11_after 0 = .ok (.aload_n 0, 1) := by decide +kernel
theorem dX11_after_1 : decode cX11_after 1 = .ok (.getfield 10, 3) := by decide +kernel
theorem dX11_after_4 : decode cX11_after 4 = .ok (.iload_n 1, 1) := by decide +kernel
theorem dX11_after_5 : decode cX11_after 5 = .ok (.invokevirtual 85, 3) := by decide +kernel
theorem dX11_after_8 : decode cX11_after 8 = .ok (.astore 4, 2) := by decide +kernel
theorem dX11_after_10 : decode cX11_after 10 = .ok (.aload_n 0, 1) := by decide +kernel
theorem dX11_after_11 : decode cX11_after 11 = .ok (.getfield 10, 3) := by decide +kernel
theorem dX11_after_14 : decode cX11_after 14 = .ok (.iload_n 2, 1) := by decide +kernel
theorem dX11_after_15 : decode cX11_after 15 = .ok (.invokevirtual 104, 3) := by decide +kernel
theorem dX11_after_18 : decode cX11_after 18 = .ok (.astore 5, 2) := by decide +kernel
theorem dX11_after_20 : decode cX11_after 20 = .ok (.aload 4, 2) := by decide +kernel
theorem dX11_after_22 : decode cX11_after 22 = .ok (.ifnull 8, 3) := by decide +kernel
theorem dX11_after_25 : decode cX11_after 25 = .ok (.aload 5, 2) := by decide +kernel
theorem dX11_after_27 : decode cX11_after 27 = .ok (.ifnonnull 6, 3) := by decide +kernel
theorem dX11_after_30 : decode cX11_after 30 = .ok (.bipush (-2), 2) := by decide +kernel
theorem dX11_after_32 : decode cX11_after 32 = .ok (.ireturn, 1) := by decide +kernel
theorem dX11_after_33 : decode cX11_after 33 = .ok (.aload_n 0, 1) := by decide +kernel
theorem dX11_after_34 : decode cX11_after 34 = .ok (.getfield 34, 3) := by decide +kernel
theorem dX11_after_37 : decode cX11_after 37 = .ok (.aload 4, 2) := by decide +kernel
theorem dX11_after_39 : decode cX11_after 39 = .ok (.aload 5, 2) := by decide +kernel
theorem dX11_after_41 : decode cX11_after 41 = .ok (.bipush 40, 2) := by decide +kernel
theorem dX11_after_43 : decode cX11_after 43 = .ok (.invokevirtual 124, 3) := by decide +kernel
theorem dX11_after_46 : decode cX11_after 46 = .ok (.pop, 1) := by decide +kernel
theorem dX11_after_47 : decode cX11_after 47 = .ok (.iload_n 3, 1) := by decide +kernel
theorem dX11_after_48 : decode cX11_after 48 = .ok (.tableswitch 88 0 5 #[40, 48, 56, 64, 72, 80], 40) := by decide +kernel
theorem dX11_after_88 : decode cX11_after 88 = .ok (.aload_n 0, 1) := by decide +kernel
theorem dX11_after_89 : decode cX11_after 89 = .ok (.getfield 34, 3) := by decide +kernel
theorem dX11_after_92 : decode cX11_after 92 = .ok (.getfield 291, 3) := by decide +kernel
theorem dX11_after_95 : decode cX11_after 95 = .ok (.ireturn, 1) := by decide +kernel
theorem dX11_after_96 : decode cX11_after 96 = .ok (.aload_n 0, 1) := by decide +kernel
theorem dX11_after_97 : decode cX11_after 97 = .ok (.getfield 34, 3) := by decide +kernel
theorem dX11_after_100 : decode cX11_after 100 = .ok (.getfield 294, 3) := by decide +kernel
theorem dX11_after_103 : decode cX11_after 103 = .ok (.ireturn, 1) := by decide +kernel
theorem dX11_after_104 : decode cX11_after 104 = .ok (.aload_n 0, 1) := by decide +kernel
theorem dX11_after_105 : decode cX11_after 105 = .ok (.getfield 34, 3) := by decide +kernel
theorem dX11_after_108 : decode cX11_after 108 = .ok (.invokevirtual 297, 3) := by decide +kernel
theorem dX11_after_111 : decode cX11_after 111 = .ok (.ireturn, 1) := by decide +kernel
theorem dX11_after_112 : decode cX11_after 112 = .ok (.aload_n 0, 1) := by decide +kernel
theorem dX11_after_113 : decode cX11_after 113 = .ok (.getfield 34, 3) := by decide +kernel
theorem dX11_after_116 : decode cX11_after 116 = .ok (.getfield 300, 3) := by decide +kernel
theorem dX11_after_119 : decode cX11_after 119 = .ok (.ireturn, 1) := by decide +kernel
theorem dX11_after_120 : decode cX11_after 120 = .ok (.aload_n 0, 1) := by decide +kernel
theorem dX11_after_121 : decode cX11_after 121 = .ok (.getfield 34, 3) := by decide +kernel
theorem dX11_after_124 : decode cX11_after 124 = .ok (.getfield 303, 3) := by decide +kernel
theorem dX11_after_127 : decode cX11_after 127 = .ok (.ireturn, 1) := by decide +kernel
theorem dX11_after_128 : decode cX11_after 128 = .ok (.aload_n 0, 1) := by decide +kernel
theorem dX11_after_129 : decode cX11_after 129 = .ok (.getfield 34, 3) := by decide +kernel
theorem dX11_after_132 : decode cX11_after 132 = .ok (.getfield 306, 3) := by decide +kernel
theorem dX11_after_135 : decode cX11_after 135 = .ok (.ireturn, 1) := by decide +kernel
theorem dX11_after_136 : decode cX11_after 136 = .ok (.bipush (-2), 2) := by decide +kernel
theorem dX11_after_138 : decode cX11_after 138 = .ok (.ireturn, 1) := by decide +kernel
theorem dX11_least_0 : decode cX11_least 0 = .ok (.aload_n 0, 1) := by decide +kernel
theorem dX11_least_1 : decode cX11_least 1 = .ok (.getfield 10, 3) := by decide +kernel
theorem dX11_least_4 : decode cX11_least 4 = .ok (.iload_n 1, 1) := by decide +kernel
theorem dX11_least_5 : decode cX11_least 5 = .ok (.invokevirtual 85, 3) := by decide +kernel
theorem dX11_least_8 : decode cX11_least 8 = .ok (.astore 4, 2) := by decide +kernel
theorem dX11_least_10 : decode cX11_least 10 = .ok (.aload_n 0, 1) := by decide +kernel
theorem dX11_least_11 : decode cX11_least 11 = .ok (.getfield 10, 3) := by decide +kernel
theorem dX11_least_14 : decode cX11_least 14 = .ok (.iload_n 2, 1) := by decide +kernel
theorem dX11_least_15 : decode cX11_least 15 = .ok (.invokevirtual 214, 3) := by decide +kernel
theorem dX11_least_18 : decode cX11_least 18 = .ok (.astore 5, 2) := by decide +kernel
theorem dX11_least_20 : decode cX11_least 20 = .ok (.aload 4, 2) := by decide +kernel
theorem dX11_least_22 : decode cX11_least 22 = .ok (.ifnull 8, 3) := by decide +kernel
theorem dX11_least_25 : decode cX11_least 25 = .ok (.aload 5, 2) := by decide +kernel
theorem dX11_least_27 : decode cX11_least 27 = .ok (.ifnonnull 5, 3) := by decide +kernel
theorem dX11_least_30 : decode cX11_least 30 = .ok (.iconst (-1), 1) := by decide +kernel
theorem dX11_least_31 : decode cX11_least 31 = .ok (.ireturn, 1) := by decide +kernel
theorem dX11_least_32 : decode cX11_least 32 = .ok (.aload_n 0, 1) := by decide +kernel
theorem dX11_least_33 : decode cX11_least 33 = .ok (.getfield 53, 3) := by decide +kernel
theorem dX11_least_36 : decode cX11_least 36 = .ok (.aload 4, 2) := by decide +kernel
theorem dX11_least_38 : decode cX11_least 38 = .ok (.aload 5, 2) := by decide +kernel
theorem dX11_least_40 : decode cX11_least 40 = .ok (.iconst (-1), 1) := by decide +kernel
theorem dX11_least_41 : decode cX11_least 41 = .ok (.invokevirtual 229, 3) := by decide +kernel
theorem dX11_least_44 : decode cX11_least 44 = .ok (.iload_n 3, 1) := by decide +kernel
theorem dX11_least_45 : decode cX11_least 45 = .ok (.tableswitch 51 0 2 #[27, 35, 43], 27) := by decide +kernel
theorem dX11_least_72 : decode cX11_least 72 = .ok (.aload_n 0, 1) := by decide +kernel
theorem dX11_least_73 : decode cX11_least 73 = .ok (.getfield 53, 3) := by decide +kernel
theorem dX11_least_76 : decode cX11_least 76 = .ok (.getfield 309, 3) := by decide +kernel
theorem dX11_least_79 : decode cX11_least 79 = .ok (.ireturn, 1) := by decide +kernel
theorem dX11_least_80 : decode cX11_least 80 = .ok (.aload_n 0, 1) := by decide +kernel
theorem dX11_least_81 : decode cX11_least 81 = .ok (.getfield 53, 3) := by decide +kernel
theorem dX11_least_84 : decode cX11_least 84 = .ok (.getfield 312, 3) := by decide +kernel
theorem dX11_least_87 : decode cX11_least 87 = .ok (.ireturn, 1) := by decide +kernel
theorem dX11_least_88 : decode cX11_least 88 = .ok (.aload_n 0, 1) := by decide +kernel
theorem dX11_least_89 : decode cX11_least 89 = .ok (.getfield 53, 3) := by decide +kernel
theorem dX11_least_92 : decode cX11_least 92 = .ok (.getfield 315, 3) := by decide +kernel
theorem dX11_least_95 : decode cX11_least 95 = .ok (.ireturn, 1) := by decide +kernel
theorem dX11_least_96 : decode cX11_least 96 = .ok (.iconst (-1), 1) := by decide +kernel
theorem dX11_least_97 : decode cX11_least 97 = .ok (.ireturn, 1) := by decide +kernel
theorem dX11_count_0 : decode cX11_count 0 = .ok (.aload_n 0, 1) := by decide +kernel
theorem dX11_count_1 : decode cX11_count 1 = .ok (.getfield 10, 3) := by decide +kernel
theorem dX11_count_4 : decode cX11_count 4 = .ok (.iload_n 1, 1) := by decide +kernel
theorem dX11_count_5 : decode cX11_count 5 = .ok (.invokevirtual 318, 3) := by decide +kernel
theorem dX11_count_8 : decode cX11_count 8 = .ok (.ifCond .eq 15, 3) := by decide +kernel
theorem dX11_count_11 : decode cX11_count 11 = .ok (.aload_n 0, 1) := by decide +kernel
theorem dX11_count_12 : decode cX11_count 12 = .ok (.getfield 10, 3) := by decide +kernel
theorem dX11_count_15 : decode cX11_count 15 = .ok (.getfield 319, 3) := by decide +kernel
theorem dX11_count_18 : decode cX11_count 18 = .ok (.iload_n 1, 1) := by decide +kernel
theorem dX11_count_19 : decode cX11_count 19 = .ok (.iaload, 1) := by decide +kernel
theorem dX11_count_20 : decode cX11_count 20 = .ok (.goto 5, 3) := by decide +kernel
theorem dX11_count_23 : decode cX11_count 23 = .ok (.bipush (-2), 2) := by decide +kernel
theorem dX11_count_25 : decode cX11_count 25 = .ok (.ireturn, 1) := by decide +kernel
theorem dX11_image_0 : decode cX11_image 0 = .ok (.iload_n 1, 1) := by decide +kernel
theorem dX11_image_1 : decode cX11_image 1 = .ok (.ifCond .lt 21, 3) := by decide +kernel
theorem dX11_image_4 : decode cX11_image 4 = .ok (.iload_n 1, 1) := by decide +kernel
theorem dX11_image_5 : decode cX11_image 5 = .ok (.aload_n 0, 1) := by decide +kernel
theorem dX11_image_6 : decode cX11_image 6 = .ok (.getfield 16, 3) := by decide +kernel
theorem dX11_image_9 : decode cX11_image 9 = .ok (.arraylength, 1) := by decide +kernel
theorem dX11_image_10 : decode cX11_image 10 = .ok (.if_icmp .ge 12, 3) := by decide +kernel
theorem dX11_image_13 : decode cX11_image 13 = .ok (.iload_n 1, 1) := by decide +kernel
theorem dX11_image_14 : decode cX11_image 14 = .ok (.aload_n 0, 1) := by decide +kernel
theorem dX11_image_15 : decode cX11_image 15 = .ok (.getfield 20, 3) := by decide +kernel
theorem dX11_image_18 : decode cX11_image 18 = .ok (.arraylength, 1) := by decide +kernel
theorem dX11_image_19 : decode cX11_image 19 = .ok (.if_icmp .lt 5, 3) := by decide +kernel
theorem dX11_image_22 : decode cX11_image 22 = .ok (.iconst 0, 1) := by decide +kernel
theorem dX11_image_23 : decode cX11_image 23 = .ok (.ireturn, 1) := by decide +kernel
theorem dX11_image_24 : decode cX11_image 24 = .ok (.aload_n 0, 1) := by decide +kernel
theorem dX11_image_25 : decode cX11_image 25 = .ok (.getfield 16, 3) := by decide +kernel
theorem dX11_image_28 : decode cX11_image 28 = .ok (.iload_n 1, 1) := by decide +kernel
theorem dX11_image_29 : decode cX11_image 29 = .ok (.aaload, 1) := by decide +kernel
theorem dX11_image_30 : decode cX11_image 30 = .ok (.aload_n 0, 1) := by decide +kernel
theorem dX11_image_31 : decode cX11_image 31 = .ok (.getfield 10, 3) := by decide +kernel
theorem dX11_image_34 : decode cX11_image 34 = .ok (.invokevirtual 322, 3) := by decide +kernel
theorem dX11_image_37 : decode cX11_image 37 = .ok (.aload_n 0, 1) := by decide +kernel
theorem dX11_image_38 : decode cX11_image 38 = .ok (.getfield 20, 3) := by decide +kernel
theorem dX11_image_41 : decode cX11_image 41 = .ok (.iload_n 1, 1) := by decide +kernel
theorem dX11_image_42 : decode cX11_image 42 = .ok (.iconst 1, 1) := by decide +kernel
theorem dX11_image_43 : decode cX11_image 43 = .ok (.bastore, 1) := by decide +kernel
theorem dX11_image_44 : decode cX11_image 44 = .ok (.iconst 1, 1) := by decide +kernel
theorem dX11_image_45 : decode cX11_image 45 = .ok (.ireturn, 1) := by decide +kernel
theorem dX11_again_0 : decode cX11_again 0 = .ok (.iload_n 1, 1) := by decide +kernel
theorem dX11_again_1 : decode cX11_again 1 = .ok (.ifCond .lt 30, 3) := by decide +kernel
theorem dX11_again_4 : decode cX11_again 4 = .ok (.iload_n 1, 1) := by decide +kernel
theorem dX11_again_5 : decode cX11_again 5 = .ok (.aload_n 0, 1) := by decide +kernel
theorem dX11_again_6 : decode cX11_again 6 = .ok (.getfield 16, 3) := by decide +kernel
theorem dX11_again_9 : decode cX11_again 9 = .ok (.arraylength, 1) := by decide +kernel
theorem dX11_again_10 : decode cX11_again 10 = .ok (.if_icmp .ge 21, 3) := by decide +kernel
theorem dX11_again_13 : decode cX11_again 13 = .ok (.iload_n 1, 1) := by decide +kernel
theorem dX11_again_14 : decode cX11_again 14 = .ok (.aload_n 0, 1) := by decide +kernel
theorem dX11_again_15 : decode cX11_again 15 = .ok (.getfield 20, 3) := by decide +kernel
theorem dX11_again_18 : decode cX11_again 18 = .ok (.arraylength, 1) := by decide +kernel
theorem dX11_again_19 : decode cX11_again 19 = .ok (.if_icmp .ge 12, 3) := by decide +kernel
theorem dX11_again_22 : decode cX11_again 22 = .ok (.aload_n 0, 1) := by decide +kernel
theorem dX11_again_23 : decode cX11_again 23 = .ok (.getfield 20, 3) := by decide +kernel
theorem dX11_again_26 : decode cX11_again 26 = .ok (.iload_n 1, 1) := by decide +kernel
theorem dX11_again_27 : decode cX11_again 27 = .ok (.baload, 1) := by decide +kernel
theorem dX11_again_28 : decode cX11_again 28 = .ok (.ifCond .ne 5, 3) := by decide +kernel
theorem dX11_again_31 : decode cX11_again 31 = .ok (.iconst 0, 1) := by decide +kernel
theorem dX11_again_32 : decode cX11_again 32 = .ok (.ireturn, 1) := by decide +kernel
theorem dX11_again_33 : decode cX11_again 33 = .ok (.aload_n 0, 1) := by decide +kernel
theorem dX11_again_34 : decode cX11_again 34 = .ok (.getfield 10, 3) := by decide +kernel
theorem dX11_again_37 : decode cX11_again 37 = .ok (.aload_n 0, 1) := by decide +kernel
theorem dX11_again_38 : decode cX11_again 38 = .ok (.getfield 16, 3) := by decide +kernel
theorem dX11_again_41 : decode cX11_again 41 = .ok (.iload_n 1, 1) := by decide +kernel
theorem dX11_again_42 : decode cX11_again 42 = .ok (.aaload, 1) := by decide +kernel
theorem dX11_again_43 : decode cX11_again 43 = .ok (.invokevirtual 322, 3) := by decide +kernel
theorem dX11_again_46 : decode cX11_again 46 = .ok (.iconst 1, 1) := by decide +kernel
theorem dX11_again_47 : decode cX11_again 47 = .ok (.ireturn, 1) := by decide +kernel
theorem dX11_numberFor_0 : decode cX11_numberFor 0 = .ok (.aload_n 0, 1) := by decide +kernel
theorem dX11_numberFor_1 : decode cX11_numberFor 1 = .ok (.getfield 10, 3) := by decide +kernel
theorem dX11_numberFor_4 : decode cX11_numberFor 4 = .ok (.iload_n 1, 1) := by decide +kernel
theorem dX11_numberFor_5 : decode cX11_numberFor 5 = .ok (.invokevirtual 318, 3) := by decide +kernel
theorem dX11_numberFor_8 : decode cX11_numberFor 8 = .ok (.ifCond .ne 6, 3) := by decide +kernel
theorem dX11_numberFor_11 : decode cX11_numberFor 11 = .ok (.bipush (-2), 2) := by decide +kernel
theorem dX11_numberFor_13 : decode cX11_numberFor 13 = .ok (.ireturn, 1) := by decide +kernel
theorem dX11_numberFor_14 : decode cX11_numberFor 14 = .ok (.aload_n 0, 1) := by decide +kernel
theorem dX11_numberFor_15 : decode cX11_numberFor 15 = .ok (.getfield 10, 3) := by decide +kernel
theorem dX11_numberFor_18 : decode cX11_numberFor 18 = .ok (.getfield 319, 3) := by decide +kernel
theorem dX11_numberFor_21 : decode cX11_numberFor 21 = .ok (.iload_n 1, 1) := by decide +kernel
theorem dX11_numberFor_22 : decode cX11_numberFor 22 = .ok (.iaload, 1) := by decide +kernel
theorem dX11_numberFor_23 : decode cX11_numberFor 23 = .ok (.istore_n 3, 1) := by decide +kernel
theorem dX11_numberFor_24 : decode cX11_numberFor 24 = .ok (.iload_n 2, 1) := by decide +kernel
theorem dX11_numberFor_25 : decode cX11_numberFor 25 = .ok (.iconst (-1), 1) := by decide +kernel
theorem dX11_numberFor_26 : decode cX11_numberFor 26 = .ok (.if_icmp .ne 15, 3) := by decide +kernel
theorem dX11_numberFor_29 : decode cX11_numberFor 29 = .ok (.iload_n 3, 1) := by decide +kernel
theorem dX11_numberFor_30 : decode cX11_numberFor 30 = .ok (.iconst 2, 1) := by decide +kernel
theorem dX11_numberFor_31 : decode cX11_numberFor 31 = .ok (.if_icmp .ge 7, 3) := by decide +kernel
theorem dX11_numberFor_34 : decode cX11_numberFor 34 = .ok (.iload_n 3, 1) := by decide +kernel
theorem dX11_numberFor_35 : decode cX11_numberFor 35 = .ok (.goto 5, 3) := by decide +kernel
theorem dX11_numberFor_38 : decode cX11_numberFor 38 = .ok (.bipush (-2), 2) := by decide +kernel
theorem dX11_numberFor_40 : decode cX11_numberFor 40 = .ok (.ireturn, 1) := by decide +kernel
theorem dX11_numberFor_41 : decode cX11_numberFor 41 = .ok (.iload_n 2, 1) := by decide +kernel
theorem dX11_numberFor_42 : decode cX11_numberFor 42 = .ok (.ifCond .lt 12, 3) := by decide +kernel
theorem dX11_numberFor_45 : decode cX11_numberFor 45 = .ok (.iload_n 2, 1) := by decide +kernel
theorem dX11_numberFor_46 : decode cX11_numberFor 46 = .ok (.iload_n 3, 1) := by decide +kernel
theorem dX11_numberFor_47 : decode cX11_numberFor 47 = .ok (.if_icmp .ge 7, 3) := by decide +kernel
theorem dX11_numberFor_50 : decode cX11_numberFor 50 = .ok (.iload_n 2, 1) := by decide +kernel
theorem dX11_numberFor_51 : decode cX11_numberFor 51 = .ok (.goto 5, 3) := by decide +kernel
theorem dX11_numberFor_54 : decode cX11_numberFor 54 = .ok (.bipush (-2), 2) := by decide +kernel
theorem dX11_numberFor_56 : decode cX11_numberFor 56 = .ok (.ireturn, 1) := by decide +kernel
theorem dX11_takeRead_0 : decode cX11_takeRead 0 = .ok (.aload_n 0, 1) := by decide +kernel
theorem dX11_takeRead_1 : decode cX11_takeRead 1 = .ok (.getfield 10, 3) := by decide +kernel
theorem dX11_takeRead_4 : decode cX11_takeRead 4 = .ok (.iload_n 1, 1) := by decide +kernel
theorem dX11_takeRead_5 : decode cX11_takeRead 5 = .ok (.invokevirtual 318, 3) := by decide +kernel
theorem dX11_takeRead_8 : decode cX11_takeRead 8 = .ok (.ifCond .eq 12, 3) := by decide +kernel
theorem dX11_takeRead_11 : decode cX11_takeRead 11 = .ok (.iload_n 2, 1) := by decide +kernel
theorem dX11_takeRead_12 : decode cX11_takeRead 12 = .ok (.ifCond .lt 8, 3) := by decide +kernel
theorem dX11_takeRead_15 : decode cX11_takeRead 15 = .ok (.iload_n 2, 1) := by decide +kernel
theorem dX11_takeRead_16 : decode cX11_takeRead 16 = .ok (.iconst 2, 1) := by decide +kernel
theorem dX11_takeRead_17 : decode cX11_takeRead 17 = .ok (.if_icmp .lt 4, 3) := by decide +kernel
theorem dX11_takeRead_20 : decode cX11_takeRead 20 = .ok (.return_, 1) := by decide +kernel
theorem dX11_takeRead_21 : decode cX11_takeRead 21 = .ok (.iload_n 2, 1) := by decide +kernel
theorem dX11_takeRead_22 : decode cX11_takeRead 22 = .ok (.aload_n 0, 1) := by decide +kernel
theorem dX11_takeRead_23 : decode cX11_takeRead 23 = .ok (.getfield 10, 3) := by decide +kernel
theorem dX11_takeRead_26 : decode cX11_takeRead 26 = .ok (.getfield 319, 3) := by decide +kernel
theorem dX11_takeRead_29 : decode cX11_takeRead 29 = .ok (.iload_n 1, 1) := by decide +kernel
theorem dX11_takeRead_30 : decode cX11_takeRead 30 = .ok (.iaload, 1) := by decide +kernel
theorem dX11_takeRead_31 : decode cX11_takeRead 31 = .ok (.if_icmp .ne 16, 3) := by decide +kernel
theorem dX11_takeRead_34 : decode cX11_takeRead 34 = .ok (.aload_n 0, 1) := by decide +kernel
theorem dX11_takeRead_35 : decode cX11_takeRead 35 = .ok (.getfield 10, 3) := by decide +kernel
theorem dX11_takeRead_38 : decode cX11_takeRead 38 = .ok (.getfield 319, 3) := by decide +kernel
theorem dX11_takeRead_41 : decode cX11_takeRead 41 = .ok (.iload_n 1, 1) := by decide +kernel
theorem dX11_takeRead_42 : decode cX11_takeRead 42 = .ok (.dup2, 1) := by decide +kernel
theorem dX11_takeRead_43 : decode cX11_takeRead 43 = .ok (.iaload, 1) := by decide +kernel
theorem dX11_takeRead_44 : decode cX11_takeRead 44 = .ok (.iconst 1, 1) := by decide +kernel
theorem dX11_takeRead_45 : decode cX11_takeRead 45 = .ok (.iadd, 1) := by decide +kernel
theorem dX11_takeRead_46 : decode cX11_takeRead 46 = .ok (.iastore, 1) := by decide +kernel
theorem dX11_takeRead_47 : decode cX11_takeRead 47 = .ok (.iload_n 1, 1) := by decide +kernel
theorem dX11_takeRead_48 : decode cX11_takeRead 48 = .ok (.lookupswitch 72 #[(0, 28), (1, 50)], 28) := by decide +kernel
theorem dX11_takeRead_76 : decode cX11_takeRead 76 = .ok (.aload_n 0, 1) := by decide +kernel
theorem dX11_takeRead_77 : decode cX11_takeRead 77 = .ok (.getfield 10, 3) := by decide +kernel
theorem dX11_takeRead_80 : decode cX11_takeRead 80 = .ok (.getfield 326, 3) := by decide +kernel
theorem dX11_takeRead_83 : decode cX11_takeRead 83 = .ok (.iload_n 2, 1) := by decide +kernel
theorem dX11_takeRead_84 : decode cX11_takeRead 84 = .ok (.aaload, 1) := by decide +kernel
theorem dX11_takeRead_85 : decode cX11_takeRead 85 = .ok (.aload_n 0, 1) := by decide +kernel
theorem dX11_takeRead_86 : decode cX11_takeRead 86 = .ok (.getfield 27, 3) := by decide +kernel
theorem dX11_takeRead_89 : decode cX11_takeRead 89 = .ok (.getfield 330, 3) := by decide +kernel
theorem dX11_takeRead_92 : decode cX11_takeRead 92 = .ok (.invokevirtual 334, 3) := by decide +kernel
theorem dX11_takeRead_95 : decode cX11_takeRead 95 = .ok (.goto 44, 3) := by decide +kernel
theorem dX11_takeRead_98 : decode cX11_takeRead 98 = .ok (.aload_n 0, 1) := by decide +kernel
theorem dX11_takeRead_99 : decode cX11_takeRead 99 = .ok (.getfield 10, 3) := by decide +kernel
theorem dX11_takeRead_102 : decode cX11_takeRead 102 = .ok (.getfield 336, 3) := by decide +kernel
theorem dX11_takeRead_105 : decode cX11_takeRead 105 = .ok (.iload_n 2, 1) := by decide +kernel
theorem dX11_takeRead_106 : decode cX11_takeRead 106 = .ok (.aaload, 1) := by decide +kernel
theorem dX11_takeRead_107 : decode cX11_takeRead 107 = .ok (.aload_n 0, 1) := by decide +kernel
theorem dX11_takeRead_108 : decode cX11_takeRead 108 = .ok (.getfield 27, 3) := by decide +kernel
theorem dX11_takeRead_111 : decode cX11_takeRead 111 = .ok (.getfield 340, 3) := by decide +kernel
theorem dX11_takeRead_114 : decode cX11_takeRead 114 = .ok (.invokevirtual 344, 3) := by decide +kernel
theorem dX11_takeRead_117 : decode cX11_takeRead 117 = .ok (.goto 22, 3) := by decide +kernel
theorem dX11_takeRead_120 : decode cX11_takeRead 120 = .ok (.aload_n 0, 1) := by decide +kernel
theorem dX11_takeRead_121 : decode cX11_takeRead 121 = .ok (.getfield 10, 3) := by decide +kernel
theorem dX11_takeRead_124 : decode cX11_takeRead 124 = .ok (.getfield 347, 3) := by decide +kernel
theorem dX11_takeRead_127 : decode cX11_takeRead 127 = .ok (.iload_n 2, 1) := by decide +kernel
theorem dX11_takeRead_128 : decode cX11_takeRead 128 = .ok (.aaload, 1) := by decide +kernel
theorem dX11_takeRead_129 : decode cX11_takeRead 129 = .ok (.aload_n 0, 1) := by decide +kernel
theorem dX11_takeRead_130 : decode cX11_takeRead 130 = .ok (.getfield 27, 3) := by decide +kernel
theorem dX11_takeRead_133 : decode cX11_takeRead 133 = .ok (.getfield 351, 3) := by decide +kernel
theorem dX11_takeRead_136 : decode cX11_takeRead 136 = .ok (.invokevirtual 355, 3) := by decide +kernel
theorem dX11_takeRead_139 : decode cX11_takeRead 139 = .ok (.return_, 1) := by decide +kernel
theorem dX11_needOfPlate_0 : decode cX11_needOfPlate 0 = .ok (.aload_n 1, 1) := by decide +kernel
theorem dX11_needOfPlate_1 : decode cX11_needOfPlate 1 = .ok (.iload_n 2, 1) := by decide +kernel
theorem dX11_needOfPlate_2 : decode cX11_needOfPlate 2 = .ok (.bipush 10, 2) := by decide +kernel
theorem dX11_needOfPlate_4 : decode cX11_needOfPlate 4 = .ok (.isub, 1) := by decide +kernel
theorem dX11_needOfPlate_5 : decode cX11_needOfPlate 5 = .ok (.invokevirtual 172, 3) := by decide +kernel
theorem dX11_needOfPlate_8 : decode cX11_needOfPlate 8 = .ok (.ifCond .eq 16, 3) := by decide +kernel
theorem dX11_needOfPlate_11 : decode cX11_needOfPlate 11 = .ok (.aload_n 0, 1) := by decide +kernel
theorem dX11_needOfPlate_12 : decode cX11_needOfPlate 12 = .ok (.getfield 41, 3) := by decide +kernel
theorem dX11_needOfPlate_15 : decode cX11_needOfPlate 15 = .ok (.aload_n 1, 1) := by decide +kernel
theorem dX11_needOfPlate_16 : decode cX11_needOfPlate 16 = .ok (.iload_n 2, 1) := by decide +kernel
theorem dX11_needOfPlate_17 : decode cX11_needOfPlate 17 = .ok (.bipush 10, 2) := by decide +kernel
theorem dX11_needOfPlate_19 : decode cX11_needOfPlate 19 = .ok (.isub, 1) := by decide +kernel
theorem dX11_needOfPlate_20 : decode cX11_needOfPlate 20 = .ok (.invokevirtual 358, 3) := by decide +kernel
theorem dX11_needOfPlate_23 : decode cX11_needOfPlate 23 = .ok (.ireturn, 1) := by decide +kernel
theorem dX11_needOfPlate_24 : decode cX11_needOfPlate 24 = .ok (.aload_n 1, 1) := by decide +kernel
theorem dX11_needOfPlate_25 : decode cX11_needOfPlate 25 = .ok (.iload_n 2, 1) := by decide +kernel
theorem dX11_needOfPlate_26 : decode cX11_needOfPlate 26 = .ok (.bipush 20, 2) := by decide +kernel
theorem dX11_needOfPlate_28 : decode cX11_needOfPlate 28 = .ok (.isub, 1) := by decide +kernel
theorem dX11_needOfPlate_29 : decode cX11_needOfPlate 29 = .ok (.invokevirtual 172, 3) := by decide +kernel
theorem dX11_needOfPlate_32 : decode cX11_needOfPlate 32 = .ok (.ifCond .eq 16, 3) := by decide +kernel
theorem dX11_needOfPlate_35 : decode cX11_needOfPlate 35 = .ok (.aload_n 0, 1) := by decide +kernel
theorem dX11_needOfPlate_36 : decode cX11_needOfPlate 36 = .ok (.getfield 41, 3) := by decide +kernel
theorem dX11_needOfPlate_39 : decode cX11_needOfPlate 39 = .ok (.aload_n 1, 1) := by decide +kernel
theorem dX11_needOfPlate_40 : decode cX11_needOfPlate 40 = .ok (.iload_n 2, 1) := by decide +kernel
theorem dX11_needOfPlate_41 : decode cX11_needOfPlate 41 = .ok (.bipush 20, 2) := by decide +kernel
theorem dX11_needOfPlate_43 : decode cX11_needOfPlate 43 = .ok (.isub, 1) := by decide +kernel
theorem dX11_needOfPlate_44 : decode cX11_needOfPlate 44 = .ok (.invokevirtual 361, 3) := by decide +kernel
theorem dX11_needOfPlate_47 : decode cX11_needOfPlate 47 = .ok (.ireturn, 1) := by decide +kernel
theorem dX11_needOfPlate_48 : decode cX11_needOfPlate 48 = .ok (.bipush (-2), 2) := by decide +kernel
theorem dX11_needOfPlate_50 : decode cX11_needOfPlate 50 = .ok (.ireturn, 1) := by decide +kernel
theorem dX11_waysToStand_0 : decode cX11_waysToStand 0 = .ok (.iconst 0, 1) := by decide +kernel
theorem dX11_waysToStand_1 : decode cX11_waysToStand 1 = .ok (.istore_n 3, 1) := by decide +kernel
theorem dX11_waysToStand_2 : decode cX11_waysToStand 2 = .ok (.iconst 1, 1) := by decide +kernel
theorem dX11_waysToStand_3 : decode cX11_waysToStand 3 = .ok (.istore 4, 2) := by decide +kernel
theorem dX11_waysToStand_5 : decode cX11_waysToStand 5 = .ok (.iconst 0, 1) := by decide +kernel
theorem dX11_waysToStand_6 : decode cX11_waysToStand 6 = .ok (.istore 5, 2) := by decide +kernel
theorem dX11_waysToStand_8 : decode cX11_waysToStand 8 = .ok (.iload 5, 2) := by decide +kernel
theorem dX11_waysToStand_10 : decode cX11_waysToStand 10 = .ok (.iload_n 2, 1) := by decide +kernel
theorem dX11_waysToStand_11 : decode cX11_waysToStand 11 = .ok (.if_icmp .gt 55, 3) := by decide +kernel
theorem dX11_waysToStand_14 : decode cX11_waysToStand 14 = .ok (.iload_n 2, 1) := by decide +kernel
theorem dX11_waysToStand_15 : decode cX11_waysToStand 15 = .ok (.iload 5, 2) := by decide +kernel
theorem dX11_waysToStand_17 : decode cX11_waysToStand 17 = .ok (.iadd, 1) := by decide +kernel
theorem dX11_waysToStand_18 : decode cX11_waysToStand 18 = .ok (.iload_n 0, 1) := by decide +kernel
theorem dX11_waysToStand_19 : decode cX11_waysToStand 19 = .ok (.if_icmp .ge 27, 3) := by decide +kernel
theorem dX11_waysToStand_22 : decode cX11_waysToStand 22 = .ok (.iload_n 3, 1) := by decide +kernel
theorem dX11_waysToStand_23 : decode cX11_waysToStand 23 = .ok (.iload 4, 2) := by decide +kernel
theorem dX11_waysToStand_25 : decode cX11_waysToStand 25 = .ok (.iload_n 1, 1) := by decide +kernel
theorem dX11_waysToStand_26 : decode cX11_waysToStand 26 = .ok (.iload 5, 2) := by decide +kernel
theorem dX11_waysToStand_28 : decode cX11_waysToStand 28 = .ok (.invokestatic 203, 3) := by decide +kernel
theorem dX11_waysToStand_31 : decode cX11_waysToStand 31 = .ok (.imul, 1) := by decide +kernel
theorem dX11_waysToStand_32 : decode cX11_waysToStand 32 = .ok (.bipush 10, 2) := by decide +kernel
theorem dX11_waysToStand_34 : decode cX11_waysToStand 34 = .ok (.iload_n 1, 1) := by decide +kernel
theorem dX11_waysToStand_35 : decode cX11_waysToStand 35 = .ok (.isub, 1) := by decide +kernel
theorem dX11_waysToStand_36 : decode cX11_waysToStand 36 = .ok (.iload_n 2, 1) := by decide +kernel
theorem dX11_waysToStand_37 : decode cX11_waysToStand 37 = .ok (.iload 5, 2) := by decide +kernel
theorem dX11_waysToStand_39 : decode cX11_waysToStand 39 = .ok (.isub, 1) := by decide +kernel
theorem dX11_waysToStand_40 : decode cX11_waysToStand 40 = .ok (.invokestatic 203, 3) := by decide +kernel
theorem dX11_waysToStand_43 : decode cX11_waysToStand 43 = .ok (.imul, 1) := by decide +kernel
theorem dX11_waysToStand_44 : decode cX11_waysToStand 44 = .ok (.iadd, 1) := by decide +kernel
theorem dX11_waysToStand_45 : decode cX11_waysToStand 45 = .ok (.istore_n 3, 1) := by decide +kernel
theorem dX11_waysToStand_46 : decode cX11_waysToStand 46 = .ok (.iload 4, 2) := by decide +kernel
theorem dX11_waysToStand_48 : decode cX11_waysToStand 48 = .ok (.iload_n 2, 1) := by decide +kernel
theorem dX11_waysToStand_49 : decode cX11_waysToStand 49 = .ok (.iload 5, 2) := by decide +kernel
theorem dX11_waysToStand_51 : decode cX11_waysToStand 51 = .ok (.isub, 1) := by decide +kernel
theorem dX11_waysToStand_52 : decode cX11_waysToStand 52 = .ok (.imul, 1) := by decide +kernel
theorem dX11_waysToStand_53 : decode cX11_waysToStand 53 = .ok (.iload 5, 2) := by decide +kernel
theorem dX11_waysToStand_55 : decode cX11_waysToStand 55 = .ok (.iconst 1, 1) := by decide +kernel
theorem dX11_waysToStand_56 : decode cX11_waysToStand 56 = .ok (.iadd, 1) := by decide +kernel
theorem dX11_waysToStand_57 : decode cX11_waysToStand 57 = .ok (.idiv, 1) := by decide +kernel
theorem dX11_waysToStand_58 : decode cX11_waysToStand 58 = .ok (.istore 4, 2) := by decide +kernel
theorem dX11_waysToStand_60 : decode cX11_waysToStand 60 = .ok (.iinc 5 1, 3) := by decide +kernel
theorem dX11_waysToStand_63 : decode cX11_waysToStand 63 = .ok (.goto (-55), 3) := by decide +kernel
theorem dX11_waysToStand_66 : decode cX11_waysToStand 66 = .ok (.iload_n 3, 1) := by decide +kernel
theorem dX11_waysToStand_67 : decode cX11_waysToStand 67 = .ok (.ireturn, 1) := by decide +kernel
theorem dX11_power_0 : decode cX11_power 0 = .ok (.iconst 1, 1) := by decide +kernel
theorem dX11_power_1 : decode cX11_power 1 = .ok (.istore_n 2, 1) := by decide +kernel
theorem dX11_power_2 : decode cX11_power 2 = .ok (.iconst 0, 1) := by decide +kernel
theorem dX11_power_3 : decode cX11_power 3 = .ok (.istore_n 3, 1) := by decide +kernel
theorem dX11_power_4 : decode cX11_power 4 = .ok (.iload_n 3, 1) := by decide +kernel
theorem dX11_power_5 : decode cX11_power 5 = .ok (.iload_n 1, 1) := by decide +kernel
theorem dX11_power_6 : decode cX11_power 6 = .ok (.if_icmp .ge 13, 3) := by decide +kernel
theorem dX11_power_9 : decode cX11_power 9 = .ok (.iload_n 2, 1) := by decide +kernel
theorem dX11_power_10 : decode cX11_power 10 = .ok (.iload_n 0, 1) := by decide +kernel
theorem dX11_power_11 : decode cX11_power 11 = .ok (.imul, 1) := by decide +kernel
theorem dX11_power_12 : decode cX11_power 12 = .ok (.istore_n 2, 1) := by decide +kernel
theorem dX11_power_13 : decode cX11_power 13 = .ok (.iinc 3 1, 3) := by decide +kernel
theorem dX11_power_16 : decode cX11_power 16 = .ok (.goto (-12), 3) := by decide +kernel
theorem dX11_power_19 : decode cX11_power 19 = .ok (.iload_n 2, 1) := by decide +kernel
theorem dX11_power_20 : decode cX11_power 20 = .ok (.ireturn, 1) := by decide +kernel
theorem dX11_commonDivisor_0 : decode cX11_commonDivisor 0 = .ok (.iload_n 0, 1) := by decide +kernel
theorem dX11_commonDivisor_1 : decode cX11_commonDivisor 1 = .ok (.istore_n 2, 1) := by decide +kernel
theorem dX11_commonDivisor_2 : decode cX11_commonDivisor 2 = .ok (.iload_n 1, 1) := by decide +kernel
theorem dX11_commonDivisor_3 : decode cX11_commonDivisor 3 = .ok (.istore_n 3, 1) := by decide +kernel
theorem dX11_commonDivisor_4 : decode cX11_commonDivisor 4 = .ok (.iconst 0, 1) := by decide +kernel
theorem dX11_commonDivisor_5 : decode cX11_commonDivisor 5 = .ok (.istore 4, 2) := by decide +kernel
theorem dX11_commonDivisor_7 : decode cX11_commonDivisor 7 = .ok (.iload 4, 2) := by decide +kernel
theorem dX11_commonDivisor_9 : decode cX11_commonDivisor 9 = .ok (.bipush 100, 2) := by decide +kernel
theorem dX11_commonDivisor_11 : decode cX11_commonDivisor 11 = .ok (.if_icmp .ge 23, 3) := by decide +kernel
theorem dX11_commonDivisor_14 : decode cX11_commonDivisor 14 = .ok (.iload_n 3, 1) := by decide +kernel
theorem dX11_commonDivisor_15 : decode cX11_commonDivisor 15 = .ok (.ifCond .eq 19, 3) := by decide +kernel
theorem dX11_commonDivisor_18 : decode cX11_commonDivisor 18 = .ok (.iload_n 2, 1) := by decide +kernel
theorem dX11_commonDivisor_19 : decode cX11_commonDivisor 19 = .ok (.iload_n 3, 1) := by decide +kernel
theorem dX11_commonDivisor_20 : decode cX11_commonDivisor 20 = .ok (.irem, 1) := by decide +kernel
theorem dX11_commonDivisor_21 : decode cX11_commonDivisor 21 = .ok (.istore 5, 2) := by decide +kernel
theorem dX11_commonDivisor_23 : decode cX11_commonDivisor 23 = .ok (.iload_n 3, 1) := by decide +kernel
theorem dX11_commonDivisor_24 : decode cX11_commonDivisor 24 = .ok (.istore_n 2, 1) := by decide +kernel
theorem dX11_commonDivisor_25 : decode cX11_commonDivisor 25 = .ok (.iload 5, 2) := by decide +kernel
theorem dX11_commonDivisor_27 : decode cX11_commonDivisor 27 = .ok (.istore_n 3, 1) := by decide +kernel
theorem dX11_commonDivisor_28 : decode cX11_commonDivisor 28 = .ok (.iinc 4 1, 3) := by decide +kernel
theorem dX11_commonDivisor_31 : decode cX11_commonDivisor 31 = .ok (.goto (-24), 3) := by decide +kernel
theorem dX11_commonDivisor_34 : decode cX11_commonDivisor 34 = .ok (.iload_n 2, 1) := by decide +kernel
theorem dX11_commonDivisor_35 : decode cX11_commonDivisor 35 = .ok (.ireturn, 1) := by decide +kernel
theorem dX12_init_0 : decode cX12_init 0 = .ok (.aload_n 0, 1) := by decide +kernel
theorem dX12_init_1 : decode cX12_init 1 = .ok (.invokespecial 1, 3) := by decide +kernel
theorem dX12_init_4 : decode cX12_init 4 = .ok (.aload_n 0, 1) := by decide +kernel
theorem dX12_init_5 : decode cX12_init 5 = .ok (.sipush 2400, 3) := by decide +kernel
theorem dX12_init_8 : decode cX12_init 8 = .ok (.newarray .byte, 2) := by decide +kernel
theorem dX12_init_10 : decode cX12_init 10 = .ok (.putfield 7, 3) := by decide +kernel
theorem dX12_init_13 : decode cX12_init 13 = .ok (.aload_n 0, 1) := by decide +kernel
theorem dX12_init_14 : decode cX12_init 14 = .ok (.iconst 4, 1) := by decide +kernel
theorem dX12_init_15 : decode cX12_init 15 = .ok (.newarray .int, 2) := by decide +kernel
theorem dX12_init_17 : decode cX12_init 17 = .ok (.putfield 13, 3) := by decide +kernel
theorem dX12_init_20 : decode cX12_init 20 = .ok (.aload_n 0, 1) := by decide +kernel
theorem dX12_init_21 : decode cX12_init 21 = .ok (.iconst 4, 1) := by decide +kernel
theorem dX12_init_22 : decode cX12_init 22 = .ok (.newarray .int, 2) := by decide +kernel
theorem dX12_init_24 : decode cX12_init 24 = .ok (.putfield 17, 3) := by decide +kernel
theorem dX12_init_27 : decode cX12_init 27 = .ok (.aload_n 0, 1) := by decide +kernel
theorem dX12_init_28 : decode cX12_init 28 = .ok (.iconst 4, 1) := by decide +kernel
theorem dX12_init_29 : decode cX12_init 29 = .ok (.newarray .int, 2) := by decide +kernel
theorem dX12_init_31 : decode cX12_init 31 = .ok (.putfield 20, 3) := by decide +kernel
theorem dX12_init_34 : decode cX12_init 34 = .ok (.aload_n 0, 1) := by decide +kernel
theorem dX12_init_35 : decode cX12_init 35 = .ok (.bipush 12, 2) := by decide +kernel
theorem dX12_init_37 : decode cX12_init 37 = .ok (.newarray .int, 2) := by decide +kernel
theorem dX12_init_39 : decode cX12_init 39 = .ok (.putfield 23, 3) := by decide +kernel
theorem dX12_init_42 : decode cX12_init 42 = .ok (.aload_n 0, 1) := by decide +kernel
theorem dX12_init_43 : decode cX12_init 43 = .ok (.sipush 144, 3) := by decide +kernel
theorem dX12_init_46 : decode cX12_init 46 = .ok (.newarray .int, 2) := by decide +kernel
theorem dX12_init_48 : decode cX12_init 48 = .ok (.putfield 26, 3) := by decide +kernel
theorem dX12_init_51 : decode cX12_init 51 = .ok (.aload_n 0, 1) := by decide +kernel
theorem dX12_init_52 : decode cX12_init 52 = .ok (.sipush 648, 3) := by decide +kernel
theorem dX12_init_55 : decode cX12_init 55 = .ok (.newarray .int, 2) := by decide +kernel
theorem dX12_init_57 : decode cX12_init 57 = .ok (.putfield 29, 3) := by decide +kernel
theorem dX12_init_60 : decode cX12_init 60 = .ok (.aload_n 0, 1) := by decide +kernel
theorem dX12_init_61 : decode cX12_init 61 = .ok (.sipush 208, 3) := by decide +kernel
theorem dX12_init_64 : decode cX12_init 64 = .ok (.newarray .int, 2) := by decide +kernel
theorem dX12_init_66 : decode cX12_init 66 = .ok (.putfield 32, 3) := by decide +kernel
theorem dX12_init_69 : decode cX12_init 69 = .ok (.aload_n 0, 1) := by decide +kernel
theorem dX12_init_70 : decode cX12_init 70 = .ok (.bipush 81, 2) := by decide +kernel
theorem dX12_init_72 : decode cX12_init 72 = .ok (.newarray .int, 2) := by decide +kernel
theorem dX12_init_74 : decode cX12_init 74 = .ok (.putfield 35, 3) := by decide +kernel
theorem dX12_init_77 : decode cX12_init 77 = .ok (.aload_n 0, 1) := by decide +kernel
theorem dX12_init_78 : decode cX12_init 78 = .ok (.iconst 3, 1) := by decide +kernel
theorem dX12_init_79 : decode cX12_init 79 = .ok (.newarray .int, 2) := by decide +kernel
theorem dX12_init_81 : decode cX12_init 81 = .ok (.putfield 38, 3) := by decide +kernel
theorem dX12_init_84 : decode cX12_init 84 = .ok (.aload_n 0, 1) := by decide +kernel
theorem dX12_init_85 : decode cX12_init 85 = .ok (.iconst 5, 1) := by decide +kernel
theorem dX12_init_86 : decode cX12_init 86 = .ok (.newarray .int, 2) := by decide +kernel
theorem dX12_init_88 : decode cX12_init 88 = .ok (.putfield 41, 3) := by decide +kernel
theorem dX12_init_91 : decode cX12_init 91 = .ok (.aload_n 0, 1) := by decide +kernel
theorem dX12_init_92 : decode cX12_init 92 = .ok (.iconst 5, 1) := by decide +kernel
theorem dX12_init_93 : decode cX12_init 93 = .ok (.newarray .int, 2) := by decide +kernel
theorem dX12_init_95 : decode cX12_init 95 = .ok (.putfield 44, 3) := by decide +kernel
theorem dX12_init_98 : decode cX12_init 98 = .ok (.aload_n 0, 1) := by decide +kernel
theorem dX12_init_99 : decode cX12_init 99 = .ok (.iconst 5, 1) := by decide +kernel
theorem dX12_init_100 : decode cX12_init 100 = .ok (.newarray .int, 2) := by decide +kernel
theorem dX12_init_102 : decode cX12_init 102 = .ok (.putfield 47, 3) := by decide +kernel
theorem dX12_init_105 : decode cX12_init 105 = .ok (.aload_n 0, 1) := by decide +kernel
theorem dX12_init_106 : decode cX12_init 106 = .ok (.iconst 5, 1) := by decide +kernel
theorem dX12_init_107 : decode cX12_init 107 = .ok (.newarray .int, 2) := by decide +kernel
theorem dX12_init_109 : decode cX12_init 109 = .ok (.putfield 50, 3) := by decide +kernel
theorem dX12_init_112 : decode cX12_init 112 = .ok (.aload_n 0, 1) := by decide +kernel
theorem dX12_init_113 : decode cX12_init 113 = .ok (.bipush 64, 2) := by decide +kernel
theorem dX12_init_115 : decode cX12_init 115 = .ok (.newarray .int, 2) := by decide +kernel
theorem dX12_init_117 : decode cX12_init 117 = .ok (.putfield 53, 3) := by decide +kernel
theorem dX12_init_120 : decode cX12_init 120 = .ok (.aload_n 0, 1) := by decide +kernel
theorem dX12_init_121 : decode cX12_init 121 = .ok (.ldc 56, 2) := by decide +kernel
theorem dX12_init_123 : decode cX12_init 123 = .ok (.newarray .int, 2) := by decide +kernel
theorem dX12_init_125 : decode cX12_init 125 = .ok (.putfield 57, 3) := by decide +kernel
theorem dX12_init_128 : decode cX12_init 128 = .ok (.aload_n 0, 1) := by decide +kernel
theorem dX12_init_129 : decode cX12_init 129 = .ok (.ldc 56, 2) := by decide +kernel
theorem dX12_init_131 : decode cX12_init 131 = .ok (.newarray .int, 2) := by decide +kernel
