theorem dX12_findRows_97 : decode cX12_findRows 97 = .ok (.invokevirtual 274, 3) := by decide +kernel
theorem dX12_findRows_100 : decode cX12_findRows 100 = .ok (.invokestatic 389, 3) := by decide +kernel
theorem dX12_findRows_103 : decode cX12_findRows 103 = .ok (.istore 4, 2) := by decide +kernel
theorem dX12_findRows_105 : decode cX12_findRows 105 = .ok (.aload_n 0, 1) := by decide +kernel
theorem dX12_findRows_106 : decode cX12_findRows 106 = .ok (.getfield 250, 3) := by decide +kernel
theorem dX12_findRows_109 : decode cX12_findRows 109 = .ok (.bipush 30, 2) := by decide +kernel
theorem dX12_findRows_111 : decode cX12_findRows 111 = .ok (.if_icmp .gt 11, 3) := by decide +kernel
theorem dX12_findRows_114 : decode cX12_findRows 114 = .ok (.aload_n 0, 1) := by decide +kernel
theorem dX12_findRows_115 : decode cX12_findRows 115 = .ok (.iconst (-1), 1) := by decide +kernel
theorem dX12_findRows_116 : decode cX12_findRows 116 = .ok (.invokevirtual 289, 3) := by decide +kernel
theorem dX12_findRows_119 : decode cX12_findRows 119 = .ok (.goto (-14), 3) := by decide +kernel
theorem dX12_findRows_122 : decode cX12_findRows 122 = .ok (.aload_n 0, 1) := by decide +kernel
theorem dX12_findRows_123 : decode cX12_findRows 123 = .ok (.invokevirtual 483, 3) := by decide +kernel
theorem dX12_findRows_126 : decode cX12_findRows 126 = .ok (.ifCond .eq 12, 3) := by decide +kernel
theorem dX12_findRows_129 : decode cX12_findRows 129 = .ok (.aload_n 0, 1) := by decide +kernel
theorem dX12_findRows_130 : decode cX12_findRows 130 = .ok (.iload_n 2, 1) := by decide +kernel
theorem dX12_findRows_131 : decode cX12_findRows 131 = .ok (.iload_n 1, 1) := by decide +kernel
theorem dX12_findRows_132 : decode cX12_findRows 132 = .ok (.iload_n 3, 1) := by decide +kernel
theorem dX12_findRows_133 : decode cX12_findRows 133 = .ok (.iload 4, 2) := by decide +kernel
theorem dX12_findRows_135 : decode cX12_findRows 135 = .ok (.invokevirtual 486, 3) := by decide +kernel
theorem dX12_findRows_138 : decode cX12_findRows 138 = .ok (.iinc 2 1, 3) := by decide +kernel
theorem dX12_findRows_141 : decode cX12_findRows 141 = .ok (.goto (-70), 3) := by decide +kernel
theorem dX12_findRows_144 : decode cX12_findRows 144 = .ok (.return_, 1) := by decide +kernel
theorem dX12_askWhat_0 : decode cX12_askWhat 0 = .ok (.iconst (-1), 1) := by decide +kernel
theorem dX12_askWhat_1 : decode cX12_askWhat 1 = .ok (.istore_n 1, 1) := by decide +kernel
theorem dX12_askWhat_2 : decode cX12_askWhat 2 = .ok (.ldc_w 358, 3) := by decide +kernel
theorem dX12_askWhat_5 : decode cX12_askWhat 5 = .ok (.istore_n 2, 1) := by decide +kernel
theorem dX12_askWhat_6 : decode cX12_askWhat 6 = .ok (.iconst 0, 1) := by decide +kernel
theorem dX12_askWhat_7 : decode cX12_askWhat 7 = .ok (.istore_n 3, 1) := by decide +kernel
theorem dX12_askWhat_8 : decode cX12_askWhat 8 = .ok (.iload_n 3, 1) := by decide +kernel
theorem dX12_askWhat_9 : decode cX12_askWhat 9 = .ok (.bipush 105, 2) := by decide +kernel
theorem dX12_askWhat_11 : decode cX12_askWhat 11 = .ok (.if_icmp .ge 68, 3) := by decide +kernel
theorem dX12_askWhat_14 : decode cX12_askWhat 14 = .ok (.aload_n 0, 1) := by decide +kernel
theorem dX12_askWhat_15 : decode cX12_askWhat 15 = .ok (.getfield 462, 3) := by decide +kernel
theorem dX12_askWhat_18 : decode cX12_askWhat 18 = .ok (.ifCond .le 61, 3) := by decide +kernel
theorem dX12_askWhat_21 : decode cX12_askWhat 21 = .ok (.aload_n 0, 1) := by decide +kernel
theorem dX12_askWhat_22 : decode cX12_askWhat 22 = .ok (.getfield 81, 3) := by decide +kernel
theorem dX12_askWhat_25 : decode cX12_askWhat 25 = .ok (.iload_n 3, 1) := by decide +kernel
theorem dX12_askWhat_26 : decode cX12_askWhat 26 = .ok (.iaload, 1) := by decide +kernel
theorem dX12_askWhat_27 : decode cX12_askWhat 27 = .ok (.aload_n 0, 1) := by decide +kernel
theorem dX12_askWhat_28 : decode cX12_askWhat 28 = .ok (.getfield 462, 3) := by decide +kernel
theorem dX12_askWhat_31 : decode cX12_askWhat 31 = .ok (.aload_n 0, 1) := by decide +kernel
theorem dX12_askWhat_32 : decode cX12_askWhat 32 = .ok (.getfield 81, 3) := by decide +kernel
theorem dX12_askWhat_35 : decode cX12_askWhat 35 = .ok (.iload_n 3, 1) := by decide +kernel
theorem dX12_askWhat_36 : decode cX12_askWhat 36 = .ok (.iaload, 1) := by decide +kernel
theorem dX12_askWhat_37 : decode cX12_askWhat 37 = .ok (.isub, 1) := by decide +kernel
theorem dX12_askWhat_38 : decode cX12_askWhat 38 = .ok (.invokestatic 280, 3) := by decide +kernel
theorem dX12_askWhat_41 : decode cX12_askWhat 41 = .ok (.istore 4, 2) := by decide +kernel
theorem dX12_askWhat_43 : decode cX12_askWhat 43 = .ok (.iload_n 3, 1) := by decide +kernel
theorem dX12_askWhat_44 : decode cX12_askWhat 44 = .ok (.iconst 5, 1) := by decide +kernel
theorem dX12_askWhat_45 : decode cX12_askWhat 45 = .ok (.irem, 1) := by decide +kernel
theorem dX12_askWhat_46 : decode cX12_askWhat 46 = .ok (.aload_n 0, 1) := by decide +kernel
theorem dX12_askWhat_47 : decode cX12_askWhat 47 = .ok (.getfield 232, 3) := by decide +kernel
theorem dX12_askWhat_50 : decode cX12_askWhat 50 = .ok (.if_icmp .ge 23, 3) := by decide +kernel
theorem dX12_askWhat_53 : decode cX12_askWhat 53 = .ok (.iload 4, 2) := by decide +kernel
theorem dX12_askWhat_55 : decode cX12_askWhat 55 = .ok (.iload_n 2, 1) := by decide +kernel
theorem dX12_askWhat_56 : decode cX12_askWhat 56 = .ok (.if_icmp .ge 17, 3) := by decide +kernel
theorem dX12_askWhat_59 : decode cX12_askWhat 59 = .ok (.bipush 10, 2) := by decide +kernel
theorem dX12_askWhat_61 : decode cX12_askWhat 61 = .ok (.iload_n 3, 1) := by decide +kernel
theorem dX12_askWhat_62 : decode cX12_askWhat 62 = .ok (.iconst 5, 1) := by decide +kernel
theorem dX12_askWhat_63 : decode cX12_askWhat 63 = .ok (.idiv, 1) := by decide +kernel
theorem dX12_askWhat_64 : decode cX12_askWhat 64 = .ok (.imul, 1) := by decide +kernel
theorem dX12_askWhat_65 : decode cX12_askWhat 65 = .ok (.iload_n 3, 1) := by decide +kernel
theorem dX12_askWhat_66 : decode cX12_askWhat 66 = .ok (.iconst 5, 1) := by decide +kernel
theorem dX12_askWhat_67 : decode cX12_askWhat 67 = .ok (.irem, 1) := by decide +kernel
theorem dX12_askWhat_68 : decode cX12_askWhat 68 = .ok (.iadd, 1) := by decide +kernel
theorem dX12_askWhat_69 : decode cX12_askWhat 69 = .ok (.istore_n 1, 1) := by decide +kernel
theorem dX12_askWhat_70 : decode cX12_askWhat 70 = .ok (.iload 4, 2) := by decide +kernel
theorem dX12_askWhat_72 : decode cX12_askWhat 72 = .ok (.istore_n 2, 1) := by decide +kernel
theorem dX12_askWhat_73 : decode cX12_askWhat 73 = .ok (.iinc 3 1, 3) := by decide +kernel
theorem dX12_askWhat_76 : decode cX12_askWhat 76 = .ok (.goto (-68), 3) := by decide +kernel
theorem dX12_askWhat_79 : decode cX12_askWhat 79 = .ok (.iload_n 1, 1) := by decide +kernel
theorem dX12_askWhat_80 : decode cX12_askWhat 80 = .ok (.ireturn, 1) := by decide +kernel
theorem dX12_sure_0 : decode cX12_sure 0 = .ok (.iconst 0, 1) := by decide +kernel
theorem dX12_sure_1 : decode cX12_sure 1 = .ok (.istore_n 2, 1) := by decide +kernel
theorem dX12_sure_2 : decode cX12_sure 2 = .ok (.iload_n 2, 1) := by decide +kernel
theorem dX12_sure_3 : decode cX12_sure 3 = .ok (.iconst 5, 1) := by decide +kernel
theorem dX12_sure_4 : decode cX12_sure 4 = .ok (.if_icmp .ge 23, 3) := by decide +kernel
theorem dX12_sure_7 : decode cX12_sure 7 = .ok (.aload_n 0, 1) := by decide +kernel
theorem dX12_sure_8 : decode cX12_sure 8 = .ok (.getfield 78, 3) := by decide +kernel
theorem dX12_sure_11 : decode cX12_sure 11 = .ok (.iload_n 1, 1) := by decide +kernel
theorem dX12_sure_12 : decode cX12_sure 12 = .ok (.iaload, 1) := by decide +kernel
theorem dX12_sure_13 : decode cX12_sure 13 = .ok (.iconst 1, 1) := by decide +kernel
theorem dX12_sure_14 : decode cX12_sure 14 = .ok (.iload_n 2, 1) := by decide +kernel
theorem dX12_sure_15 : decode cX12_sure 15 = .ok (.ishl, 1) := by decide +kernel
theorem dX12_sure_16 : decode cX12_sure 16 = .ok (.if_icmp .ne 5, 3) := by decide +kernel
theorem dX12_sure_19 : decode cX12_sure 19 = .ok (.iload_n 2, 1) := by decide +kernel
theorem dX12_sure_20 : decode cX12_sure 20 = .ok (.ireturn, 1) := by decide +kernel
theorem dX12_sure_21 : decode cX12_sure 21 = .ok (.iinc 2 1, 3) := by decide +kernel
theorem dX12_sure_24 : decode cX12_sure 24 = .ok (.goto (-22), 3) := by decide +kernel
theorem dX12_sure_27 : decode cX12_sure 27 = .ok (.iconst (-1), 1) := by decide +kernel
theorem dX12_sure_28 : decode cX12_sure 28 = .ok (.ireturn, 1) := by decide +kernel
theorem dX12_fits_0 : decode cX12_fits 0 = .ok (.aload_n 0, 1) := by decide +kernel
theorem dX12_fits_1 : decode cX12_fits 1 = .ok (.iconst 0, 1) := by decide +kernel
theorem dX12_fits_2 : decode cX12_fits 2 = .ok (.putfield 88, 3) := by decide +kernel
theorem dX12_fits_5 : decode cX12_fits 5 = .ok (.aload_n 0, 1) := by decide +kernel
theorem dX12_fits_6 : decode cX12_fits 6 = .ok (.iload_n 2, 1) := by decide +kernel
theorem dX12_fits_7 : decode cX12_fits 7 = .ok (.invokevirtual 447, 3) := by decide +kernel
theorem dX12_fits_10 : decode cX12_fits 10 = .ok (.ifCond .eq 11, 3) := by decide +kernel
theorem dX12_fits_13 : decode cX12_fits 13 = .ok (.aload_n 0, 1) := by decide +kernel
theorem dX12_fits_14 : decode cX12_fits 14 = .ok (.iload_n 1, 1) := by decide +kernel
theorem dX12_fits_15 : decode cX12_fits 15 = .ok (.invokevirtual 241, 3) := by decide +kernel
theorem dX12_fits_18 : decode cX12_fits 18 = .ok (.ifCond .ne 6, 3) := by decide +kernel
theorem dX12_fits_21 : decode cX12_fits 21 = .ok (.bipush (-2), 2) := by decide +kernel
theorem dX12_fits_23 : decode cX12_fits 23 = .ok (.ireturn, 1) := by decide +kernel
theorem dX12_fits_24 : decode cX12_fits 24 = .ok (.aload_n 0, 1) := by decide +kernel
theorem dX12_fits_25 : decode cX12_fits 25 = .ok (.iload_n 3, 1) := by decide +kernel
theorem dX12_fits_26 : decode cX12_fits 26 = .ok (.bipush 10, 2) := by decide +kernel
theorem dX12_fits_28 : decode cX12_fits 28 = .ok (.isub, 1) := by decide +kernel
theorem dX12_fits_29 : decode cX12_fits 29 = .ok (.invokevirtual 490, 3) := by decide +kernel
theorem dX12_fits_32 : decode cX12_fits 32 = .ok (.iload_n 3, 1) := by decide +kernel
theorem dX12_fits_33 : decode cX12_fits 33 = .ok (.bipush 10, 2) := by decide +kernel
theorem dX12_fits_35 : decode cX12_fits 35 = .ok (.if_icmp .lt 8, 3) := by decide +kernel
theorem dX12_fits_38 : decode cX12_fits 38 = .ok (.aload_n 0, 1) := by decide +kernel
theorem dX12_fits_39 : decode cX12_fits 39 = .ok (.getfield 468, 3) := by decide +kernel
theorem dX12_fits_42 : decode cX12_fits 42 = .ok (.ireturn, 1) := by decide +kernel
theorem dX12_fits_43 : decode cX12_fits 43 = .ok (.iload_n 3, 1) := by decide +kernel
theorem dX12_fits_44 : decode cX12_fits 44 = .ok (.iconst 2, 1) := by decide +kernel
theorem dX12_fits_45 : decode cX12_fits 45 = .ok (.iconst 5, 1) := by decide +kernel
theorem dX12_fits_46 : decode cX12_fits 46 = .ok (.invokestatic 100, 3) := by decide +kernel
theorem dX12_fits_49 : decode cX12_fits 49 = .ok (.ifCond .eq 11, 3) := by decide +kernel
theorem dX12_fits_52 : decode cX12_fits 52 = .ok (.aload_n 0, 1) := by decide +kernel
theorem dX12_fits_53 : decode cX12_fits 53 = .ok (.iload_n 3, 1) := by decide +kernel
theorem dX12_fits_54 : decode cX12_fits 54 = .ok (.iconst 2, 1) := by decide +kernel
theorem dX12_fits_55 : decode cX12_fits 55 = .ok (.isub, 1) := by decide +kernel
theorem dX12_fits_56 : decode cX12_fits 56 = .ok (.invokevirtual 493, 3) := by decide +kernel
theorem dX12_fits_59 : decode cX12_fits 59 = .ok (.ireturn, 1) := by decide +kernel
theorem dX12_fits_60 : decode cX12_fits 60 = .ok (.iload_n 3, 1) := by decide +kernel
theorem dX12_fits_61 : decode cX12_fits 61 = .ok (.ifCond .ne 10, 3) := by decide +kernel
theorem dX12_fits_64 : decode cX12_fits 64 = .ok (.aload_n 0, 1) := by decide +kernel
theorem dX12_fits_65 : decode cX12_fits 65 = .ok (.getfield 462, 3) := by decide +kernel
theorem dX12_fits_68 : decode cX12_fits 68 = .ok (.goto 17, 3) := by decide +kernel
theorem dX12_fits_71 : decode cX12_fits 71 = .ok (.iload_n 3, 1) := by decide +kernel
theorem dX12_fits_72 : decode cX12_fits 72 = .ok (.iconst 1, 1) := by decide +kernel
theorem dX12_fits_73 : decode cX12_fits 73 = .ok (.if_icmp .ne 10, 3) := by decide +kernel
theorem dX12_fits_76 : decode cX12_fits 76 = .ok (.aload_n 0, 1) := by decide +kernel
theorem dX12_fits_77 : decode cX12_fits 77 = .ok (.invokevirtual 496, 3) := by decide +kernel
theorem dX12_fits_80 : decode cX12_fits 80 = .ok (.goto 5, 3) := by decide +kernel
theorem dX12_fits_83 : decode cX12_fits 83 = .ok (.bipush (-2), 2) := by decide +kernel
theorem dX12_fits_85 : decode cX12_fits 85 = .ok (.ireturn, 1) := by decide +kernel
theorem dX12_draw_0 : decode cX12_draw 0 = .ok (.aload_n 0, 1) := by decide +kernel
theorem dX12_draw_1 : decode cX12_draw 1 = .ok (.aload_n 0, 1) := by decide +kernel
theorem dX12_draw_2 : decode cX12_draw 2 = .ok (.getfield 499, 3) := by decide +kernel
theorem dX12_draw_5 : decode cX12_draw 5 = .ok (.ldc_w 502, 3) := by decide +kernel
theorem dX12_draw_8 : decode cX12_draw 8 = .ok (.imul, 1) := by decide +kernel
theorem dX12_draw_9 : decode cX12_draw 9 = .ok (.sipush 12345, 3) := by decide +kernel
theorem dX12_draw_12 : decode cX12_draw 12 = .ok (.iadd, 1) := by decide +kernel
theorem dX12_draw_13 : decode cX12_draw 13 = .ok (.putfield 499, 3) := by decide +kernel
theorem dX12_draw_16 : decode cX12_draw 16 = .ok (.aload_n 0, 1) := by decide +kernel
theorem dX12_draw_17 : decode cX12_draw 17 = .ok (.getfield 499, 3) := by decide +kernel
theorem dX12_draw_20 : decode cX12_draw 20 = .ok (.bipush 16, 2) := by decide +kernel
theorem dX12_draw_22 : decode cX12_draw 22 = .ok (.iushr, 1) := by decide +kernel
theorem dX12_draw_23 : decode cX12_draw 23 = .ok (.iload_n 1, 1) := by decide +kernel
theorem dX12_draw_24 : decode cX12_draw 24 = .ok (.irem, 1) := by decide +kernel
theorem dX12_draw_25 : decode cX12_draw 25 = .ok (.ireturn, 1) := by decide +kernel
theorem dX12_drawDeed_0 : decode cX12_drawDeed 0 = .ok (.aload_n 0, 1) := by decide +kernel
theorem dX12_drawDeed_1 : decode cX12_drawDeed 1 = .ok (.bipush 10, 2) := by decide +kernel
theorem dX12_drawDeed_3 : decode cX12_drawDeed 3 = .ok (.invokevirtual 503, 3) := by decide +kernel
theorem dX12_drawDeed_6 : decode cX12_drawDeed 6 = .ok (.istore_n 1, 1) := by decide +kernel
theorem dX12_drawDeed_7 : decode cX12_drawDeed 7 = .ok (.iload_n 1, 1) := by decide +kernel
theorem dX12_drawDeed_8 : decode cX12_drawDeed 8 = .ok (.bipush 7, 2) := by decide +kernel
theorem dX12_drawDeed_10 : decode cX12_drawDeed 10 = .ok (.if_icmp .le 13, 3) := by decide +kernel
theorem dX12_drawDeed_13 : decode cX12_drawDeed 13 = .ok (.aload_n 0, 1) := by decide +kernel
theorem dX12_drawDeed_14 : decode cX12_drawDeed 14 = .ok (.iconst 0, 1) := by decide +kernel
theorem dX12_drawDeed_15 : decode cX12_drawDeed 15 = .ok (.iconst (-1), 1) := by decide +kernel
theorem dX12_drawDeed_16 : decode cX12_drawDeed 16 = .ok (.invokevirtual 310, 3) := by decide +kernel
theorem dX12_drawDeed_19 : decode cX12_drawDeed 19 = .ok (.pop, 1) := by decide +kernel
theorem dX12_drawDeed_20 : decode cX12_drawDeed 20 = .ok (.goto 52, 3) := by decide +kernel
theorem dX12_drawDeed_23 : decode cX12_drawDeed 23 = .ok (.aload_n 0, 1) := by decide +kernel
theorem dX12_drawDeed_24 : decode cX12_drawDeed 24 = .ok (.getfield 232, 3) := by decide +kernel
theorem dX12_drawDeed_27 : decode cX12_drawDeed 27 = .ok (.ifCond .le 45, 3) := by decide +kernel
theorem dX12_drawDeed_30 : decode cX12_drawDeed 30 = .ok (.aload_n 0, 1) := by decide +kernel
theorem dX12_drawDeed_31 : decode cX12_drawDeed 31 = .ok (.iload_n 1, 1) := by decide +kernel
theorem dX12_drawDeed_32 : decode cX12_drawDeed 32 = .ok (.iconst 5, 1) := by decide +kernel
theorem dX12_drawDeed_33 : decode cX12_drawDeed 33 = .ok (.if_icmp .ge 7, 3) := by decide +kernel
theorem dX12_drawDeed_36 : decode cX12_drawDeed 36 = .ok (.iconst 1, 1) := by decide +kernel
theorem dX12_drawDeed_37 : decode cX12_drawDeed 37 = .ok (.goto 23, 3) := by decide +kernel
theorem dX12_drawDeed_40 : decode cX12_drawDeed 40 = .ok (.iload_n 1, 1) := by decide +kernel
theorem dX12_drawDeed_41 : decode cX12_drawDeed 41 = .ok (.iconst 5, 1) := by decide +kernel
theorem dX12_drawDeed_42 : decode cX12_drawDeed 42 = .ok (.if_icmp .ne 7, 3) := by decide +kernel
theorem dX12_drawDeed_45 : decode cX12_drawDeed 45 = .ok (.iconst 2, 1) := by decide +kernel
theorem dX12_drawDeed_46 : decode cX12_drawDeed 46 = .ok (.goto 14, 3) := by decide +kernel
theorem dX12_drawDeed_49 : decode cX12_drawDeed 49 = .ok (.iload_n 1, 1) := by decide +kernel
theorem dX12_drawDeed_50 : decode cX12_drawDeed 50 = .ok (.bipush 6, 2) := by decide +kernel
theorem dX12_drawDeed_52 : decode cX12_drawDeed 52 = .ok (.if_icmp .ne 7, 3) := by decide +kernel
theorem dX12_drawDeed_55 : decode cX12_drawDeed 55 = .ok (.iconst 3, 1) := by decide +kernel
theorem dX12_drawDeed_56 : decode cX12_drawDeed 56 = .ok (.goto 4, 3) := by decide +kernel
theorem dX12_drawDeed_59 : decode cX12_drawDeed 59 = .ok (.iconst 4, 1) := by decide +kernel
theorem dX12_drawDeed_60 : decode cX12_drawDeed 60 = .ok (.aload_n 0, 1) := by decide +kernel
theorem dX12_drawDeed_61 : decode cX12_drawDeed 61 = .ok (.aload_n 0, 1) := by decide +kernel
theorem dX12_drawDeed_62 : decode cX12_drawDeed 62 = .ok (.getfield 232, 3) := by decide +kernel
theorem dX12_drawDeed_65 : decode cX12_drawDeed 65 = .ok (.invokevirtual 503, 3) := by decide +kernel
theorem dX12_drawDeed_68 : decode cX12_drawDeed 68 = .ok (.invokevirtual 310, 3) := by decide +kernel
theorem dX12_drawDeed_71 : decode cX12_drawDeed 71 = .ok (.pop, 1) := by decide +kernel
theorem dX12_drawDeed_72 : decode cX12_drawDeed 72 = .ok (.return_, 1) := by decide +kernel
theorem dX12_drawn_0 : decode cX12_drawn 0 = .ok (.aload_n 0, 1) := by decide +kernel
theorem dX12_drawn_1 : decode cX12_drawn 1 = .ok (.iconst 0, 1) := by decide +kernel
theorem dX12_drawn_2 : decode cX12_drawn 2 = .ok (.putfield 88, 3) := by decide +kernel
theorem dX12_drawn_5 : decode cX12_drawn 5 = .ok (.iload_n 3, 1) := by decide +kernel
theorem dX12_drawn_6 : decode cX12_drawn 6 = .ok (.iconst 0, 1) := by decide +kernel
theorem dX12_drawn_7 : decode cX12_drawn 7 = .ok (.bipush 60, 2) := by decide +kernel
theorem dX12_drawn_9 : decode cX12_drawn 9 = .ok (.invokestatic 100, 3) := by decide +kernel
theorem dX12_drawn_12 : decode cX12_drawn 12 = .ok (.ifCond .eq 11, 3) := by decide +kernel
theorem dX12_drawn_15 : decode cX12_drawn 15 = .ok (.aload_n 0, 1) := by decide +kernel
theorem dX12_drawn_16 : decode cX12_drawn 16 = .ok (.iload_n 1, 1) := by decide +kernel
theorem dX12_drawn_17 : decode cX12_drawn 17 = .ok (.invokevirtual 241, 3) := by decide +kernel
theorem dX12_drawn_20 : decode cX12_drawn 20 = .ok (.ifCond .ne 5, 3) := by decide +kernel
theorem dX12_drawn_23 : decode cX12_drawn 23 = .ok (.iconst (-1), 1) := by decide +kernel
theorem dX12_drawn_24 : decode cX12_drawn 24 = .ok (.ireturn, 1) := by decide +kernel
theorem dX12_drawn_25 : decode cX12_drawn 25 = .ok (.aload_n 0, 1) := by decide +kernel
theorem dX12_drawn_26 : decode cX12_drawn 26 = .ok (.invokevirtual 316, 3) := by decide +kernel
theorem dX12_drawn_29 : decode cX12_drawn 29 = .ok (.aload_n 0, 1) := by decide +kernel
theorem dX12_drawn_30 : decode cX12_drawn 30 = .ok (.iload_n 2, 1) := by decide +kernel
theorem dX12_drawn_31 : decode cX12_drawn 31 = .ok (.putfield 499, 3) := by decide +kernel
theorem dX12_drawn_34 : decode cX12_drawn 34 = .ok (.iconst 0, 1) := by decide +kernel
theorem dX12_drawn_35 : decode cX12_drawn 35 = .ok (.istore 5, 2) := by decide +kernel
theorem dX12_drawn_37 : decode cX12_drawn 37 = .ok (.iload 5, 2) := by decide +kernel
theorem dX12_drawn_39 : decode cX12_drawn 39 = .ok (.iload_n 3, 1) := by decide +kernel
theorem dX12_drawn_40 : decode cX12_drawn 40 = .ok (.if_icmp .ge 13, 3) := by decide +kernel
theorem dX12_drawn_43 : decode cX12_drawn 43 = .ok (.aload_n 0, 1) := by decide +kernel
theorem dX12_drawn_44 : decode cX12_drawn 44 = .ok (.invokevirtual 506, 3) := by decide +kernel
theorem dX12_drawn_47 : decode cX12_drawn 47 = .ok (.iinc 5 1, 3) := by decide +kernel
theorem dX12_drawn_50 : decode cX12_drawn 50 = .ok (.goto (-13), 3) := by decide +kernel
theorem dX12_drawn_53 : decode cX12_drawn 53 = .ok (.aload_n 0, 1) := by decide +kernel
theorem dX12_drawn_54 : decode cX12_drawn 54 = .ok (.iload 4, 2) := by decide +kernel
theorem dX12_drawn_56 : decode cX12_drawn 56 = .ok (.invokevirtual 325, 3) := by decide +kernel
theorem dX12_drawn_59 : decode cX12_drawn 59 = .ok (.ireturn, 1) := by decide +kernel
theorem dX12_loadOf_0 : decode cX12_loadOf 0 = .ok (.iconst 0, 1) := by decide +kernel
theorem dX12_loadOf_1 : decode cX12_loadOf 1 = .ok (.istore_n 1, 1) := by decide +kernel
theorem dX12_loadOf_2 : decode cX12_loadOf 2 = .ok (.iconst 0, 1) := by decide +kernel
theorem dX12_loadOf_3 : decode cX12_loadOf 3 = .ok (.istore_n 2, 1) := by decide +kernel
theorem dX12_loadOf_4 : decode cX12_loadOf 4 = .ok (.iload_n 2, 1) := by decide +kernel
theorem dX12_loadOf_5 : decode cX12_loadOf 5 = .ok (.aload_n 0, 1) := by decide +kernel
theorem dX12_loadOf_6 : decode cX12_loadOf 6 = .ok (.getfield 232, 3) := by decide +kernel
theorem dX12_loadOf_9 : decode cX12_loadOf 9 = .ok (.if_icmp .ge 21, 3) := by decide +kernel
theorem dX12_loadOf_12 : decode cX12_loadOf 12 = .ok (.iload_n 1, 1) := by decide +kernel
theorem dX12_loadOf_13 : decode cX12_loadOf 13 = .ok (.bipush 60, 2) := by decide +kernel
theorem dX12_loadOf_15 : decode cX12_loadOf 15 = .ok (.aload_n 0, 1) := by decide +kernel
theorem dX12_loadOf_16 : decode cX12_loadOf 16 = .ok (.getfield 44, 3) := by decide +kernel
theorem dX12_loadOf_19 : decode cX12_loadOf 19 = .ok (.iload_n 2, 1) := by decide +kernel
theorem dX12_loadOf_20 : decode cX12_loadOf 20 = .ok (.iaload, 1) := by decide +kernel
theorem dX12_loadOf_21 : decode cX12_loadOf 21 = .ok (.idiv, 1) := by decide +kernel
theorem dX12_loadOf_22 : decode cX12_loadOf 22 = .ok (.iadd, 1) := by decide +kernel
theorem dX12_loadOf_23 : decode cX12_loadOf 23 = .ok (.istore_n 1, 1) := by decide +kernel
theorem dX12_loadOf_24 : decode cX12_loadOf 24 = .ok (.iinc 2 1, 3) := by decide +kernel
theorem dX12_loadOf_27 : decode cX12_loadOf 27 = .ok (.goto (-23), 3) := by decide +kernel
theorem dX12_loadOf_30 : decode cX12_loadOf 30 = .ok (.iload_n 1, 1) := by decide +kernel
theorem dX12_loadOf_31 : decode cX12_loadOf 31 = .ok (.ireturn, 1) := by decide +kernel
theorem dX12_fallingOf_0 : decode cX12_fallingOf 0 = .ok (.iconst 0, 1) := by decide +kernel
theorem dX12_fallingOf_1 : decode cX12_fallingOf 1 = .ok (.istore_n 2, 1) := by decide +kernel
theorem dX12_fallingOf_2 : decode cX12_fallingOf 2 = .ok (.iconst (-1), 1) := by decide +kernel
theorem dX12_fallingOf_3 : decode cX12_fallingOf 3 = .ok (.istore_n 3, 1) := by decide +kernel
theorem dX12_fallingOf_4 : decode cX12_fallingOf 4 = .ok (.iconst 0, 1) := by decide +kernel
theorem dX12_fallingOf_5 : decode cX12_fallingOf 5 = .ok (.istore 4, 2) := by decide +kernel
theorem dX12_fallingOf_7 : decode cX12_fallingOf 7 = .ok (.iload 4, 2) := by decide +kernel
theorem dX12_fallingOf_9 : decode cX12_fallingOf 9 = .ok (.iload_n 1, 1) := by decide +kernel
theorem dX12_fallingOf_10 : decode cX12_fallingOf 10 = .ok (.if_icmp .gt 84, 3) := by decide +kernel
theorem dX12_fallingOf_13 : decode cX12_fallingOf 13 = .ok (.iconst (-1), 1) := by decide +kernel
theorem dX12_fallingOf_14 : decode cX12_fallingOf 14 = .ok (.istore_n 3, 1) := by decide +kernel
theorem dX12_fallingOf_15 : decode cX12_fallingOf 15 = .ok (.iconst 0, 1) := by decide +kernel
theorem dX12_fallingOf_16 : decode cX12_fallingOf 16 = .ok (.istore 5, 2) := by decide +kernel
theorem dX12_fallingOf_18 : decode cX12_fallingOf 18 = .ok (.iload 5, 2) := by decide +kernel
theorem dX12_fallingOf_20 : decode cX12_fallingOf 20 = .ok (.aload_n 0, 1) := by decide +kernel
theorem dX12_fallingOf_21 : decode cX12_fallingOf 21 = .ok (.getfield 232, 3) := by decide +kernel
theorem dX12_fallingOf_24 : decode cX12_fallingOf 24 = .ok (.if_icmp .ge 58, 3) := by decide +kernel
theorem dX12_fallingOf_27 : decode cX12_fallingOf 27 = .ok (.iload_n 3, 1) := by decide +kernel
theorem dX12_fallingOf_28 : decode cX12_fallingOf 28 = .ok (.iconst (-1), 1) := by decide +kernel
theorem dX12_fallingOf_29 : decode cX12_fallingOf 29 = .ok (.if_icmp .eq 19, 3) := by decide +kernel
theorem dX12_fallingOf_32 : decode cX12_fallingOf 32 = .ok (.aload_n 0, 1) := by decide +kernel
theorem dX12_fallingOf_33 : decode cX12_fallingOf 33 = .ok (.getfield 47, 3) := by decide +kernel
theorem dX12_fallingOf_36 : decode cX12_fallingOf 36 = .ok (.iload 5, 2) := by decide +kernel
theorem dX12_fallingOf_38 : decode cX12_fallingOf 38 = .ok (.iaload, 1) := by decide +kernel
theorem dX12_fallingOf_39 : decode cX12_fallingOf 39 = .ok (.aload_n 0, 1) := by decide +kernel
theorem dX12_fallingOf_40 : decode cX12_fallingOf 40 = .ok (.getfield 47, 3) := by decide +kernel
theorem dX12_fallingOf_43 : decode cX12_fallingOf 43 = .ok (.iload_n 3, 1) := by decide +kernel
theorem dX12_fallingOf_44 : decode cX12_fallingOf 44 = .ok (.iaload, 1) := by decide +kernel
theorem dX12_fallingOf_45 : decode cX12_fallingOf 45 = .ok (.if_icmp .ge 7, 3) := by decide +kernel
theorem dX12_fallingOf_48 : decode cX12_fallingOf 48 = .ok (.iconst 1, 1) := by decide +kernel
theorem dX12_fallingOf_49 : decode cX12_fallingOf 49 = .ok (.goto 4, 3) := by decide +kernel
theorem dX12_fallingOf_52 : decode cX12_fallingOf 52 = .ok (.iconst 0, 1) := by decide +kernel
theorem dX12_fallingOf_53 : decode cX12_fallingOf 53 = .ok (.istore 6, 2) := by decide +kernel
theorem dX12_fallingOf_55 : decode cX12_fallingOf 55 = .ok (.iload_n 2, 1) := by decide +kernel
theorem dX12_fallingOf_56 : decode cX12_fallingOf 56 = .ok (.iload 5, 2) := by decide +kernel
theorem dX12_fallingOf_58 : decode cX12_fallingOf 58 = .ok (.invokestatic 92, 3) := by decide +kernel
theorem dX12_fallingOf_61 : decode cX12_fallingOf 61 = .ok (.ifCond .ne 13, 3) := by decide +kernel
theorem dX12_fallingOf_64 : decode cX12_fallingOf 64 = .ok (.iload 6, 2) := by decide +kernel
theorem dX12_fallingOf_66 : decode cX12_fallingOf 66 = .ok (.ifCond .eq 8, 3) := by decide +kernel
theorem dX12_fallingOf_69 : decode cX12_fallingOf 69 = .ok (.iload 5, 2) := by decide +kernel
theorem dX12_fallingOf_71 : decode cX12_fallingOf 71 = .ok (.goto 4, 3) := by decide +kernel
theorem dX12_fallingOf_74 : decode cX12_fallingOf 74 = .ok (.iload_n 3, 1) := by decide +kernel
theorem dX12_fallingOf_75 : decode cX12_fallingOf 75 = .ok (.istore_n 3, 1) := by decide +kernel
theorem dX12_fallingOf_76 : decode cX12_fallingOf 76 = .ok (.iinc 5 1, 3) := by decide +kernel
theorem dX12_fallingOf_79 : decode cX12_fallingOf 79 = .ok (.goto (-61), 3) := by decide +kernel
theorem dX12_fallingOf_82 : decode cX12_fallingOf 82 = .ok (.iload_n 2, 1) := by decide +kernel
theorem dX12_fallingOf_83 : decode cX12_fallingOf 83 = .ok (.iconst 1, 1) := by decide +kernel
theorem dX12_fallingOf_84 : decode cX12_fallingOf 84 = .ok (.iload_n 3, 1) := by decide +kernel
theorem dX12_fallingOf_85 : decode cX12_fallingOf 85 = .ok (.ishl, 1) := by decide +kernel
theorem dX12_fallingOf_86 : decode cX12_fallingOf 86 = .ok (.ior, 1) := by decide +kernel
theorem dX12_fallingOf_87 : decode cX12_fallingOf 87 = .ok (.istore_n 2, 1) := by decide +kernel
theorem dX12_fallingOf_88 : decode cX12_fallingOf 88 = .ok (.iinc 4 1, 3) := by decide +kernel
theorem dX12_fallingOf_91 : decode cX12_fallingOf 91 = .ok (.goto (-84), 3) := by decide +kernel
theorem dX12_fallingOf_94 : decode cX12_fallingOf 94 = .ok (.iload_n 3, 1) := by decide +kernel
theorem dX12_fallingOf_95 : decode cX12_fallingOf 95 = .ok (.ireturn, 1) := by decide +kernel
theorem dX12_span_0 : decode cX12_span 0 = .ok (.ldc_w 358, 3) := by decide +kernel
theorem dX12_span_3 : decode cX12_span 3 = .ok (.istore_n 1, 1) := by decide +kernel
theorem dX12_span_4 : decode cX12_span 4 = .ok (.iconst 0, 1) := by decide +kernel
theorem dX12_span_5 : decode cX12_span 5 = .ok (.istore_n 2, 1) := by decide +kernel
theorem dX12_span_6 : decode cX12_span 6 = .ok (.iconst 0, 1) := by decide +kernel
theorem dX12_span_7 : decode cX12_span 7 = .ok (.istore_n 3, 1) := by decide +kernel
theorem dX12_span_8 : decode cX12_span 8 = .ok (.iload_n 3, 1) := by decide +kernel
theorem dX12_span_9 : decode cX12_span 9 = .ok (.aload_n 0, 1) := by decide +kernel
theorem dX12_span_10 : decode cX12_span 10 = .ok (.getfield 232, 3) := by decide +kernel
theorem dX12_span_13 : decode cX12_span 13 = .ok (.if_icmp .ge 31, 3) := by decide +kernel
theorem dX12_span_16 : decode cX12_span 16 = .ok (.iload_n 1, 1) := by decide +kernel
theorem dX12_span_17 : decode cX12_span 17 = .ok (.aload_n 0, 1) := by decide +kernel
theorem dX12_span_18 : decode cX12_span 18 = .ok (.getfield 41, 3) := by decide +kernel
theorem dX12_span_21 : decode cX12_span 21 = .ok (.iload_n 3, 1) := by decide +kernel
theorem dX12_span_22 : decode cX12_span 22 = .ok (.iaload, 1) := by decide +kernel
theorem dX12_span_23 : decode cX12_span 23 = .ok (.invokestatic 162, 3) := by decide +kernel
theorem dX12_span_26 : decode cX12_span 26 = .ok (.istore_n 1, 1) := by decide +kernel
theorem dX12_span_27 : decode cX12_span 27 = .ok (.iload_n 2, 1) := by decide +kernel
theorem dX12_span_28 : decode cX12_span 28 = .ok (.aload_n 0, 1) := by decide +kernel
theorem dX12_span_29 : decode cX12_span 29 = .ok (.getfield 41, 3) := by decide +kernel
theorem dX12_span_32 : decode cX12_span 32 = .ok (.iload_n 3, 1) := by decide +kernel
theorem dX12_span_33 : decode cX12_span 33 = .ok (.iaload, 1) := by decide +kernel
theorem dX12_span_34 : decode cX12_span 34 = .ok (.invokestatic 280, 3) := by decide +kernel
theorem dX12_span_37 : decode cX12_span 37 = .ok (.istore_n 2, 1) := by decide +kernel
theorem dX12_span_38 : decode cX12_span 38 = .ok (.iinc 3 1, 3) := by decide +kernel
theorem dX12_span_41 : decode cX12_span 41 = .ok (.goto (-33), 3) := by decide +kernel
theorem dX12_span_44 : decode cX12_span 44 = .ok (.aload_n 0, 1) := by decide +kernel
theorem dX12_span_45 : decode cX12_span 45 = .ok (.getfield 232, 3) := by decide +kernel
theorem dX12_span_48 : decode cX12_span 48 = .ok (.ifCond .ne 7, 3) := by decide +kernel
theorem dX12_span_51 : decode cX12_span 51 = .ok (.iconst 0, 1) := by decide +kernel
theorem dX12_span_52 : decode cX12_span 52 = .ok (.goto 6, 3) := by decide +kernel
theorem dX12_span_55 : decode cX12_span 55 = .ok (.iload_n 2, 1) := by decide +kernel
theorem dX12_span_56 : decode cX12_span 56 = .ok (.iload_n 1, 1) := by decide +kernel
theorem dX12_span_57 : decode cX12_span 57 = .ok (.isub, 1) := by decide +kernel
theorem dX12_span_58 : decode cX12_span 58 = .ok (.ireturn, 1) := by decide +kernel
theorem dX12_couples_0 : decode cX12_couples 0 = .ok (.iconst 0, 1) := by decide +kernel
theorem dX12_couples_1 : decode cX12_couples 1 = .ok (.istore_n 2, 1) := by decide +kernel
theorem dX12_couples_2 : decode cX12_couples 2 = .ok (.iconst 0, 1) := by decide +kernel
theorem dX12_couples_3 : decode cX12_couples 3 = .ok (.istore_n 3, 1) := by decide +kernel
theorem dX12_couples_4 : decode cX12_couples 4 = .ok (.iload_n 3, 1) := by decide +kernel
theorem dX12_couples_5 : decode cX12_couples 5 = .ok (.aload_n 0, 1) := by decide +kernel
theorem dX12_couples_6 : decode cX12_couples 6 = .ok (.getfield 232, 3) := by decide +kernel
theorem dX12_couples_9 : decode cX12_couples 9 = .ok (.if_icmp .ge 79, 3) := by decide +kernel
theorem dX12_couples_12 : decode cX12_couples 12 = .ok (.iconst 0, 1) := by decide +kernel
theorem dX12_couples_13 : decode cX12_couples 13 = .ok (.istore 4, 2) := by decide +kernel
theorem dX12_couples_15 : decode cX12_couples 15 = .ok (.iload 4, 2) := by decide +kernel
theorem dX12_couples_17 : decode cX12_couples 17 = .ok (.iload_n 3, 1) := by decide +kernel
theorem dX12_couples_18 : decode cX12_couples 18 = .ok (.if_icmp .ge 64, 3) := by decide +kernel
theorem dX12_couples_21 : decode cX12_couples 21 = .ok (.aload_n 0, 1) := by decide +kernel
theorem dX12_couples_22 : decode cX12_couples 22 = .ok (.iconst 1, 1) := by decide +kernel
theorem dX12_couples_23 : decode cX12_couples 23 = .ok (.iload_n 3, 1) := by decide +kernel
theorem dX12_couples_24 : decode cX12_couples 24 = .ok (.ishl, 1) := by decide +kernel
theorem dX12_couples_25 : decode cX12_couples 25 = .ok (.iconst 1, 1) := by decide +kernel
theorem dX12_couples_26 : decode cX12_couples 26 = .ok (.iload 4, 2) := by decide +kernel
theorem dX12_couples_28 : decode cX12_couples 28 = .ok (.ishl, 1) := by decide +kernel
theorem dX12_couples_29 : decode cX12_couples 29 = .ok (.ior, 1) := by decide +kernel
theorem dX12_couples_30 : decode cX12_couples 30 = .ok (.putfield 235, 3) := by decide +kernel
theorem dX12_couples_33 : decode cX12_couples 33 = .ok (.iload_n 2, 1) := by decide +kernel
theorem dX12_couples_34 : decode cX12_couples 34 = .ok (.iload_n 1, 1) := by decide +kernel
theorem dX12_couples_35 : decode cX12_couples 35 = .ok (.ifCond .eq 18, 3) := by decide +kernel
theorem dX12_couples_38 : decode cX12_couples 38 = .ok (.aload_n 0, 1) := by decide +kernel
theorem dX12_couples_39 : decode cX12_couples 39 = .ok (.invokevirtual 377, 3) := by decide +kernel
theorem dX12_couples_42 : decode cX12_couples 42 = .ok (.ifCond .eq 7, 3) := by decide +kernel
theorem dX12_couples_45 : decode cX12_couples 45 = .ok (.iconst 1, 1) := by decide +kernel
theorem dX12_couples_46 : decode cX12_couples 46 = .ok (.goto 28, 3) := by decide +kernel
theorem dX12_couples_49 : decode cX12_couples 49 = .ok (.iconst 0, 1) := by decide +kernel
theorem dX12_couples_50 : decode cX12_couples 50 = .ok (.goto 24, 3) := by decide +kernel
theorem dX12_couples_53 : decode cX12_couples 53 = .ok (.aload_n 0, 1) := by decide +kernel
theorem dX12_couples_54 : decode cX12_couples 54 = .ok (.getfield 41, 3) := by decide +kernel
theorem dX12_couples_57 : decode cX12_couples 57 = .ok (.iload_n 3, 1) := by decide +kernel
theorem dX12_couples_58 : decode cX12_couples 58 = .ok (.iaload, 1) := by decide +kernel
theorem dX12_couples_59 : decode cX12_couples 59 = .ok (.aload_n 0, 1) := by decide +kernel
theorem dX12_couples_60 : decode cX12_couples 60 = .ok (.getfield 41, 3) := by decide +kernel
theorem dX12_couples_63 : decode cX12_couples 63 = .ok (.iload 4, 2) := by decide +kernel
theorem dX12_couples_65 : decode cX12_couples 65 = .ok (.iaload, 1) := by decide +kernel
theorem dX12_couples_66 : decode cX12_couples 66 = .ok (.if_icmp .ne 7, 3) := by decide +kernel
theorem dX12_couples_69 : decode cX12_couples 69 = .ok (.iconst 1, 1) := by decide +kernel
theorem dX12_couples_70 : decode cX12_couples 70 = .ok (.goto 4, 3) := by decide +kernel
theorem dX12_couples_73 : decode cX12_couples 73 = .ok (.iconst 0, 1) := by decide +kernel
theorem dX12_couples_74 : decode cX12_couples 74 = .ok (.iadd, 1) := by decide +kernel
theorem dX12_couples_75 : decode cX12_couples 75 = .ok (.istore_n 2, 1) := by decide +kernel
theorem dX12_couples_76 : decode cX12_couples 76 = .ok (.iinc 4 1, 3) := by decide +kernel
theorem dX12_couples_79 : decode cX12_couples 79 = .ok (.goto (-64), 3) := by decide +kernel
theorem dX12_couples_82 : decode cX12_couples 82 = .ok (.iinc 3 1, 3) := by decide +kernel
theorem dX12_couples_85 : decode cX12_couples 85 = .ok (.goto (-81), 3) := by decide +kernel
theorem dX12_couples_88 : decode cX12_couples 88 = .ok (.iload_n 2, 1) := by decide +kernel
theorem dX12_couples_89 : decode cX12_couples 89 = .ok (.ireturn, 1) := by decide +kernel
theorem dX12_aloneOf_0 : decode cX12_aloneOf 0 = .ok (.iconst 0, 1) := by decide +kernel
theorem dX12_aloneOf_1 : decode cX12_aloneOf 1 = .ok (.istore_n 1, 1) := by decide +kernel
theorem dX12_aloneOf_2 : decode cX12_aloneOf 2 = .ok (.iconst 0, 1) := by decide +kernel
theorem dX12_aloneOf_3 : decode cX12_aloneOf 3 = .ok (.istore_n 2, 1) := by decide +kernel
theorem dX12_aloneOf_4 : decode cX12_aloneOf 4 = .ok (.iload_n 2, 1) := by decide +kernel
theorem dX12_aloneOf_5 : decode cX12_aloneOf 5 = .ok (.aload_n 0, 1) := by decide +kernel
theorem dX12_aloneOf_6 : decode cX12_aloneOf 6 = .ok (.getfield 232, 3) := by decide +kernel
theorem dX12_aloneOf_9 : decode cX12_aloneOf 9 = .ok (.if_icmp .ge 33, 3) := by decide +kernel
theorem dX12_aloneOf_12 : decode cX12_aloneOf 12 = .ok (.aload_n 0, 1) := by decide +kernel
theorem dX12_aloneOf_13 : decode cX12_aloneOf 13 = .ok (.iconst 1, 1) := by decide +kernel
theorem dX12_aloneOf_14 : decode cX12_aloneOf 14 = .ok (.iload_n 2, 1) := by decide +kernel
theorem dX12_aloneOf_15 : decode cX12_aloneOf 15 = .ok (.ishl, 1) := by decide +kernel
theorem dX12_aloneOf_16 : decode cX12_aloneOf 16 = .ok (.putfield 235, 3) := by decide +kernel
theorem dX12_aloneOf_19 : decode cX12_aloneOf 19 = .ok (.iload_n 1, 1) := by decide +kernel
theorem dX12_aloneOf_20 : decode cX12_aloneOf 20 = .ok (.aload_n 0, 1) := by decide +kernel
theorem dX12_aloneOf_21 : decode cX12_aloneOf 21 = .ok (.invokevirtual 377, 3) := by decide +kernel
theorem dX12_aloneOf_24 : decode cX12_aloneOf 24 = .ok (.ifCond .eq 9, 3) := by decide +kernel
theorem dX12_aloneOf_27 : decode cX12_aloneOf 27 = .ok (.iconst 1, 1) := by decide +kernel
theorem dX12_aloneOf_28 : decode cX12_aloneOf 28 = .ok (.iload_n 2, 1) := by decide +kernel
theorem dX12_aloneOf_29 : decode cX12_aloneOf 29 = .ok (.ishl, 1) := by decide +kernel
theorem dX12_aloneOf_30 : decode cX12_aloneOf 30 = .ok (.goto 4, 3) := by decide +kernel
theorem dX12_aloneOf_33 : decode cX12_aloneOf 33 = .ok (.iconst 0, 1) := by decide +kernel
theorem dX12_aloneOf_34 : decode cX12_aloneOf 34 = .ok (.ior, 1) := by decide +kernel
theorem dX12_aloneOf_35 : decode cX12_aloneOf 35 = .ok (.istore_n 1, 1) := by decide +kernel
theorem dX12_aloneOf_36 : decode cX12_aloneOf 36 = .ok (.iinc 2 1, 3) := by decide +kernel
theorem dX12_aloneOf_39 : decode cX12_aloneOf 39 = .ok (.goto (-35), 3) := by decide +kernel
theorem dX12_aloneOf_42 : decode cX12_aloneOf 42 = .ok (.iload_n 1, 1) := by decide +kernel
theorem dX12_aloneOf_43 : decode cX12_aloneOf 43 = .ok (.ireturn, 1) := by decide +kernel
theorem dX12_late_0 : decode cX12_late 0 = .ok (.iconst 0, 1) := by decide +kernel
theorem dX12_late_1 : decode cX12_late 1 = .ok (.istore_n 1, 1) := by decide +kernel
theorem dX12_late_2 : decode cX12_late 2 = .ok (.iconst 0, 1) := by decide +kernel
theorem dX12_late_3 : decode cX12_late 3 = .ok (.istore_n 2, 1) := by decide +kernel
theorem dX12_late_4 : decode cX12_late 4 = .ok (.iload_n 2, 1) := by decide +kernel
theorem dX12_late_5 : decode cX12_late 5 = .ok (.aload_n 0, 1) := by decide +kernel
theorem dX12_late_6 : decode cX12_late 6 = .ok (.getfield 232, 3) := by decide +kernel
theorem dX12_late_9 : decode cX12_late 9 = .ok (.if_icmp .ge 44, 3) := by decide +kernel
theorem dX12_late_12 : decode cX12_late 12 = .ok (.iload_n 1, 1) := by decide +kernel
theorem dX12_late_13 : decode cX12_late 13 = .ok (.aload_n 0, 1) := by decide +kernel
theorem dX12_late_14 : decode cX12_late 14 = .ok (.getfield 47, 3) := by decide +kernel
theorem dX12_late_17 : decode cX12_late 17 = .ok (.iload_n 2, 1) := by decide +kernel
theorem dX12_late_18 : decode cX12_late 18 = .ok (.iaload, 1) := by decide +kernel
theorem dX12_late_19 : decode cX12_late 19 = .ok (.aload_n 0, 1) := by decide +kernel
theorem dX12_late_20 : decode cX12_late 20 = .ok (.aload_n 0, 1) := by decide +kernel
theorem dX12_late_21 : decode cX12_late 21 = .ok (.getfield 229, 3) := by decide +kernel
theorem dX12_late_24 : decode cX12_late 24 = .ok (.aload_n 0, 1) := by decide +kernel
theorem dX12_late_25 : decode cX12_late 25 = .ok (.getfield 41, 3) := by decide +kernel
theorem dX12_late_28 : decode cX12_late 28 = .ok (.iload_n 2, 1) := by decide +kernel
theorem dX12_late_29 : decode cX12_late 29 = .ok (.iaload, 1) := by decide +kernel
theorem dX12_late_30 : decode cX12_late 30 = .ok (.invokevirtual 283, 3) := by decide +kernel
theorem dX12_late_33 : decode cX12_late 33 = .ok (.iconst 1, 1) := by decide +kernel
theorem dX12_late_34 : decode cX12_late 34 = .ok (.iadd, 1) := by decide +kernel
theorem dX12_late_35 : decode cX12_late 35 = .ok (.if_icmp .ge 9, 3) := by decide +kernel
theorem dX12_late_38 : decode cX12_late 38 = .ok (.iconst 1, 1) := by decide +kernel
theorem dX12_late_39 : decode cX12_late 39 = .ok (.iload_n 2, 1) := by decide +kernel
theorem dX12_late_40 : decode cX12_late 40 = .ok (.ishl, 1) := by decide +kernel
theorem dX12_late_41 : decode cX12_late 41 = .ok (.goto 4, 3) := by decide +kernel
theorem dX12_late_44 : decode cX12_late 44 = .ok (.iconst 0, 1) := by decide +kernel
theorem dX12_late_45 : decode cX12_late 45 = .ok (.ior, 1) := by decide +kernel
theorem dX12_late_46 : decode cX12_late 46 = .ok (.istore_n 1, 1) := by decide +kernel
theorem dX12_late_47 : decode cX12_late 47 = .ok (.iinc 2 1, 3) := by decide +kernel
theorem dX12_late_50 : decode cX12_late 50 = .ok (.goto (-46), 3) := by decide +kernel
theorem dX12_late_53 : decode cX12_late 53 = .ok (.iload_n 1, 1) := by decide +kernel
theorem dX12_late_54 : decode cX12_late 54 = .ok (.ireturn, 1) := by decide +kernel
theorem dX12_inRow_0 : decode cX12_inRow 0 = .ok (.aload_n 0, 1) := by decide +kernel
theorem dX12_inRow_1 : decode cX12_inRow 1 = .ok (.invokevirtual 343, 3) := by decide +kernel
theorem dX12_inRow_4 : decode cX12_inRow 4 = .ok (.iconst 0, 1) := by decide +kernel
theorem dX12_inRow_5 : decode cX12_inRow 5 = .ok (.istore_n 1, 1) := by decide +kernel
theorem dX12_inRow_6 : decode cX12_inRow 6 = .ok (.aload_n 0, 1) := by decide +kernel
theorem dX12_inRow_7 : decode cX12_inRow 7 = .ok (.getfield 232, 3) := by decide +kernel
theorem dX12_inRow_10 : decode cX12_inRow 10 = .ok (.ifCond .le 39, 3) := by decide +kernel
theorem dX12_inRow_13 : decode cX12_inRow 13 = .ok (.iload_n 1, 1) := by decide +kernel
theorem dX12_inRow_14 : decode cX12_inRow 14 = .ok (.bipush 99, 2) := by decide +kernel
theorem dX12_inRow_16 : decode cX12_inRow 16 = .ok (.if_icmp .ge 33, 3) := by decide +kernel
theorem dX12_inRow_19 : decode cX12_inRow 19 = .ok (.aload_n 0, 1) := by decide +kernel
theorem dX12_inRow_20 : decode cX12_inRow 20 = .ok (.iload_n 1, 1) := by decide +kernel
theorem dX12_inRow_21 : decode cX12_inRow 21 = .ok (.aload_n 0, 1) := by decide +kernel
theorem dX12_inRow_22 : decode cX12_inRow 22 = .ok (.getfield 232, 3) := by decide +kernel
theorem dX12_inRow_25 : decode cX12_inRow 25 = .ok (.irem, 1) := by decide +kernel
theorem dX12_inRow_26 : decode cX12_inRow 26 = .ok (.invokevirtual 352, 3) := by decide +kernel
theorem dX12_inRow_29 : decode cX12_inRow 29 = .ok (.ifCond .eq 20, 3) := by decide +kernel
theorem dX12_inRow_32 : decode cX12_inRow 32 = .ok (.aload_n 0, 1) := by decide +kernel
theorem dX12_inRow_33 : decode cX12_inRow 33 = .ok (.iload_n 1, 1) := by decide +kernel
theorem dX12_inRow_34 : decode cX12_inRow 34 = .ok (.aload_n 0, 1) := by decide +kernel
theorem dX12_inRow_35 : decode cX12_inRow 35 = .ok (.getfield 232, 3) := by decide +kernel
theorem dX12_inRow_38 : decode cX12_inRow 38 = .ok (.irem, 1) := by decide +kernel
theorem dX12_inRow_39 : decode cX12_inRow 39 = .ok (.invokevirtual 355, 3) := by decide +kernel
theorem dX12_inRow_42 : decode cX12_inRow 42 = .ok (.pop, 1) := by decide +kernel
theorem dX12_inRow_43 : decode cX12_inRow 43 = .ok (.iinc 1 1, 3) := by decide +kernel
theorem dX12_inRow_46 : decode cX12_inRow 46 = .ok (.goto (-40), 3) := by decide +kernel
theorem dX12_inRow_49 : decode cX12_inRow 49 = .ok (.iload_n 1, 1) := by decide +kernel
theorem dX12_inRow_50 : decode cX12_inRow 50 = .ok (.ireturn, 1) := by decide +kernel
theorem dX12_waysFrom_0 : decode cX12_waysFrom 0 = .ok (.iconst 0, 1) := by decide +kernel
theorem dX12_waysFrom_1 : decode cX12_waysFrom 1 = .ok (.istore_n 2, 1) := by decide +kernel
theorem dX12_waysFrom_2 : decode cX12_waysFrom 2 = .ok (.iconst 0, 1) := by decide +kernel
theorem dX12_waysFrom_3 : decode cX12_waysFrom 3 = .ok (.istore_n 3, 1) := by decide +kernel
theorem dX12_waysFrom_4 : decode cX12_waysFrom 4 = .ok (.iload_n 3, 1) := by decide +kernel
theorem dX12_waysFrom_5 : decode cX12_waysFrom 5 = .ok (.aload_n 0, 1) := by decide +kernel
theorem dX12_waysFrom_6 : decode cX12_waysFrom 6 = .ok (.getfield 232, 3) := by decide +kernel
theorem dX12_waysFrom_9 : decode cX12_waysFrom 9 = .ok (.if_icmp .ge 23, 3) := by decide +kernel
theorem dX12_waysFrom_12 : decode cX12_waysFrom 12 = .ok (.iload_n 2, 1) := by decide +kernel
theorem dX12_waysFrom_13 : decode cX12_waysFrom 13 = .ok (.aload_n 0, 1) := by decide +kernel
theorem dX12_waysFrom_14 : decode cX12_waysFrom 14 = .ok (.iload_n 1, 1) := by decide +kernel
theorem dX12_waysFrom_15 : decode cX12_waysFrom 15 = .ok (.aload_n 0, 1) := by decide +kernel
theorem dX12_waysFrom_16 : decode cX12_waysFrom 16 = .ok (.getfield 41, 3) := by decide +kernel
theorem dX12_waysFrom_19 : decode cX12_waysFrom 19 = .ok (.iload_n 3, 1) := by decide +kernel
theorem dX12_waysFrom_20 : decode cX12_waysFrom 20 = .ok (.iaload, 1) := by decide +kernel
theorem dX12_waysFrom_21 : decode cX12_waysFrom 21 = .ok (.invokevirtual 283, 3) := by decide +kernel
theorem dX12_waysFrom_24 : decode cX12_waysFrom 24 = .ok (.iadd, 1) := by decide +kernel
theorem dX12_waysFrom_25 : decode cX12_waysFrom 25 = .ok (.istore_n 2, 1) := by decide +kernel
theorem dX12_waysFrom_26 : decode cX12_waysFrom 26 = .ok (.iinc 3 1, 3) := by decide +kernel
theorem dX12_waysFrom_29 : decode cX12_waysFrom 29 = .ok (.goto (-25), 3) := by decide +kernel
theorem dX12_waysFrom_32 : decode cX12_waysFrom 32 = .ok (.iload_n 2, 1) := by decide +kernel
theorem dX12_waysFrom_33 : decode cX12_waysFrom 33 = .ok (.ireturn, 1) := by decide +kernel
theorem dX12_centre_0 : decode cX12_centre 0 = .ok (.iconst 0, 1) := by decide +kernel
theorem dX12_centre_1 : decode cX12_centre 1 = .ok (.istore_n 1, 1) := by decide +kernel
theorem dX12_centre_2 : decode cX12_centre 2 = .ok (.iconst 1, 1) := by decide +kernel
theorem dX12_centre_3 : decode cX12_centre 3 = .ok (.istore_n 2, 1) := by decide +kernel
theorem dX12_centre_4 : decode cX12_centre 4 = .ok (.iload_n 2, 1) := by decide +kernel
theorem dX12_centre_5 : decode cX12_centre 5 = .ok (.bipush 10, 2) := by decide +kernel
theorem dX12_centre_7 : decode cX12_centre 7 = .ok (.if_icmp .ge 28, 3) := by decide +kernel
theorem dX12_centre_10 : decode cX12_centre 10 = .ok (.aload_n 0, 1) := by decide +kernel
theorem dX12_centre_11 : decode cX12_centre 11 = .ok (.iload_n 2, 1) := by decide +kernel
theorem dX12_centre_12 : decode cX12_centre 12 = .ok (.invokevirtual 509, 3) := by decide +kernel
theorem dX12_centre_15 : decode cX12_centre 15 = .ok (.aload_n 0, 1) := by decide +kernel
theorem dX12_centre_16 : decode cX12_centre 16 = .ok (.iload_n 1, 1) := by decide +kernel
theorem dX12_centre_17 : decode cX12_centre 17 = .ok (.invokevirtual 509, 3) := by decide +kernel
theorem dX12_centre_20 : decode cX12_centre 20 = .ok (.if_icmp .ge 7, 3) := by decide +kernel
theorem dX12_centre_23 : decode cX12_centre 23 = .ok (.iload_n 2, 1) := by decide +kernel
theorem dX12_centre_24 : decode cX12_centre 24 = .ok (.goto 4, 3) := by decide +kernel
theorem dX12_centre_27 : decode cX12_centre 27 = .ok (.iload_n 1, 1) := by decide +kernel
theorem dX12_centre_28 : decode cX12_centre 28 = .ok (.istore_n 1, 1) := by decide +kernel
theorem dX12_centre_29 : decode cX12_centre 29 = .ok (.iinc 2 1, 3) := by decide +kernel
theorem dX12_centre_32 : decode cX12_centre 32 = .ok (.goto (-28), 3) := by decide +kernel
theorem dX12_centre_35 : decode cX12_centre 35 = .ok (.iload_n 1, 1) := by decide +kernel
theorem dX12_centre_36 : decode cX12_centre 36 = .ok (.ireturn, 1) := by decide +kernel
theorem dX12_swapTwo_0 : decode cX12_swapTwo 0 = .ok (.aload_n 0, 1) := by decide +kernel
theorem dX12_swapTwo_1 : decode cX12_swapTwo 1 = .ok (.invokevirtual 377, 3) := by decide +kernel
theorem dX12_swapTwo_4 : decode cX12_swapTwo 4 = .ok (.ifCond .eq 5, 3) := by decide +kernel
theorem dX12_swapTwo_7 : decode cX12_swapTwo 7 = .ok (.iconst (-1), 1) := by decide +kernel
theorem dX12_swapTwo_8 : decode cX12_swapTwo 8 = .ok (.ireturn, 1) := by decide +kernel
theorem dX12_swapTwo_9 : decode cX12_swapTwo 9 = .ok (.iconst 0, 1) := by decide +kernel
theorem dX12_swapTwo_10 : decode cX12_swapTwo 10 = .ok (.istore_n 1, 1) := by decide +kernel
theorem dX12_swapTwo_11 : decode cX12_swapTwo 11 = .ok (.iload_n 1, 1) := by decide +kernel
theorem dX12_swapTwo_12 : decode cX12_swapTwo 12 = .ok (.aload_n 0, 1) := by decide +kernel
theorem dX12_swapTwo_13 : decode cX12_swapTwo 13 = .ok (.getfield 232, 3) := by decide +kernel
theorem dX12_swapTwo_16 : decode cX12_swapTwo 16 = .ok (.if_icmp .ge 71, 3) := by decide +kernel
theorem dX12_swapTwo_19 : decode cX12_swapTwo 19 = .ok (.iload_n 1, 1) := by decide +kernel
theorem dX12_swapTwo_20 : decode cX12_swapTwo 20 = .ok (.iconst 1, 1) := by decide +kernel
theorem dX12_swapTwo_21 : decode cX12_swapTwo 21 = .ok (.iadd, 1) := by decide +kernel
theorem dX12_swapTwo_22 : decode cX12_swapTwo 22 = .ok (.istore_n 2, 1) := by decide +kernel
theorem dX12_swapTwo_23 : decode cX12_swapTwo 23 = .ok (.iload_n 2, 1) := by decide +kernel
theorem dX12_swapTwo_24 : decode cX12_swapTwo 24 = .ok (.aload_n 0, 1) := by decide +kernel
theorem dX12_swapTwo_25 : decode cX12_swapTwo 25 = .ok (.getfield 232, 3) := by decide +kernel
theorem dX12_swapTwo_28 : decode cX12_swapTwo 28 = .ok (.if_icmp .ge 53, 3) := by decide +kernel
theorem dX12_swapTwo_31 : decode cX12_swapTwo 31 = .ok (.aload_n 0, 1) := by decide +kernel
theorem dX12_swapTwo_32 : decode cX12_swapTwo 32 = .ok (.invokevirtual 238, 3) := by decide +kernel
theorem dX12_swapTwo_35 : decode cX12_swapTwo 35 = .ok (.aload_n 0, 1) := by decide +kernel
theorem dX12_swapTwo_36 : decode cX12_swapTwo 36 = .ok (.getfield 41, 3) := by decide +kernel
theorem dX12_swapTwo_39 : decode cX12_swapTwo 39 = .ok (.iload_n 1, 1) := by decide +kernel
theorem dX12_swapTwo_40 : decode cX12_swapTwo 40 = .ok (.aload_n 0, 1) := by decide +kernel
theorem dX12_swapTwo_41 : decode cX12_swapTwo 41 = .ok (.iconst 3, 1) := by decide +kernel
theorem dX12_swapTwo_42 : decode cX12_swapTwo 42 = .ok (.iload_n 2, 1) := by decide +kernel
theorem dX12_swapTwo_43 : decode cX12_swapTwo 43 = .ok (.iadd, 1) := by decide +kernel
theorem dX12_swapTwo_44 : decode cX12_swapTwo 44 = .ok (.invokevirtual 222, 3) := by decide +kernel
theorem dX12_swapTwo_47 : decode cX12_swapTwo 47 = .ok (.iastore, 1) := by decide +kernel
theorem dX12_swapTwo_48 : decode cX12_swapTwo 48 = .ok (.aload_n 0, 1) := by decide +kernel
theorem dX12_swapTwo_49 : decode cX12_swapTwo 49 = .ok (.getfield 41, 3) := by decide +kernel
theorem dX12_swapTwo_52 : decode cX12_swapTwo 52 = .ok (.iload_n 2, 1) := by decide +kernel
theorem dX12_swapTwo_53 : decode cX12_swapTwo 53 = .ok (.aload_n 0, 1) := by decide +kernel
theorem dX12_swapTwo_54 : decode cX12_swapTwo 54 = .ok (.iconst 3, 1) := by decide +kernel
theorem dX12_swapTwo_55 : decode cX12_swapTwo 55 = .ok (.iload_n 1, 1) := by decide +kernel
theorem dX12_swapTwo_56 : decode cX12_swapTwo 56 = .ok (.iadd, 1) := by decide +kernel
theorem dX12_swapTwo_57 : decode cX12_swapTwo 57 = .ok (.invokevirtual 222, 3) := by decide +kernel
theorem dX12_swapTwo_60 : decode cX12_swapTwo 60 = .ok (.iastore, 1) := by decide +kernel
theorem dX12_swapTwo_61 : decode cX12_swapTwo 61 = .ok (.aload_n 0, 1) := by decide +kernel
theorem dX12_swapTwo_62 : decode cX12_swapTwo 62 = .ok (.invokevirtual 377, 3) := by decide +kernel
theorem dX12_swapTwo_65 : decode cX12_swapTwo 65 = .ok (.ifCond .eq 10, 3) := by decide +kernel
theorem dX12_swapTwo_68 : decode cX12_swapTwo 68 = .ok (.bipush 10, 2) := by decide +kernel
theorem dX12_swapTwo_70 : decode cX12_swapTwo 70 = .ok (.iload_n 1, 1) := by decide +kernel
theorem dX12_swapTwo_71 : decode cX12_swapTwo 71 = .ok (.imul, 1) := by decide +kernel
theorem dX12_swapTwo_72 : decode cX12_swapTwo 72 = .ok (.iload_n 2, 1) := by decide +kernel
theorem dX12_swapTwo_73 : decode cX12_swapTwo 73 = .ok (.iadd, 1) := by decide +kernel
theorem dX12_swapTwo_74 : decode cX12_swapTwo 74 = .ok (.ireturn, 1) := by decide +kernel
theorem dX12_swapTwo_75 : decode cX12_swapTwo 75 = .ok (.iinc 2 1, 3) := by decide +kernel
theorem dX12_swapTwo_78 : decode cX12_swapTwo 78 = .ok (.goto (-55), 3) := by decide +kernel
theorem dX12_swapTwo_81 : decode cX12_swapTwo 81 = .ok (.iinc 1 1, 3) := by decide +kernel
theorem dX12_swapTwo_84 : decode cX12_swapTwo 84 = .ok (.goto (-73), 3) := by decide +kernel
theorem dX12_swapTwo_87 : decode cX12_swapTwo 87 = .ok (.iconst (-1), 1) := by decide +kernel
theorem dX12_swapTwo_88 : decode cX12_swapTwo 88 = .ok (.ireturn, 1) := by decide +kernel
theorem dX12_ofLoad_0 : decode cX12_ofLoad 0 = .ok (.iload_n 1, 1) := by decide +kernel
theorem dX12_ofLoad_1 : decode cX12_ofLoad 1 = .ok (.tableswitch 79 2 6 #[35, 57, 62, 68, 73], 35) := by decide +kernel
theorem dX12_ofLoad_36 : decode cX12_ofLoad 36 = .ok (.aload_n 0, 1) := by decide +kernel
theorem dX12_ofLoad_37 : decode cX12_ofLoad 37 = .ok (.getfield 232, 3) := by decide +kernel
theorem dX12_ofLoad_40 : decode cX12_ofLoad 40 = .ok (.ifCond .ne 7, 3) := by decide +kernel
theorem dX12_ofLoad_43 : decode cX12_ofLoad 43 = .ok (.iconst (-1), 1) := by decide +kernel
theorem dX12_ofLoad_44 : decode cX12_ofLoad 44 = .ok (.goto 13, 3) := by decide +kernel
theorem dX12_ofLoad_47 : decode cX12_ofLoad 47 = .ok (.aload_n 0, 1) := by decide +kernel
theorem dX12_ofLoad_48 : decode cX12_ofLoad 48 = .ok (.getfield 47, 3) := by decide +kernel
theorem dX12_ofLoad_51 : decode cX12_ofLoad 51 = .ok (.aload_n 0, 1) := by decide +kernel
theorem dX12_ofLoad_52 : decode cX12_ofLoad 52 = .ok (.iconst 0, 1) := by decide +kernel
theorem dX12_ofLoad_53 : decode cX12_ofLoad 53 = .ok (.invokevirtual 512, 3) := by decide +kernel
theorem dX12_ofLoad_56 : decode cX12_ofLoad 56 = .ok (.iaload, 1) := by decide +kernel
theorem dX12_ofLoad_57 : decode cX12_ofLoad 57 = .ok (.ireturn, 1) := by decide +kernel
theorem dX12_ofLoad_58 : decode cX12_ofLoad 58 = .ok (.aload_n 0, 1) := by decide +kernel
theorem dX12_ofLoad_59 : decode cX12_ofLoad 59 = .ok (.invokevirtual 515, 3) := by decide +kernel
theorem dX12_ofLoad_62 : decode cX12_ofLoad 62 = .ok (.ireturn, 1) := by decide +kernel
theorem dX12_ofLoad_63 : decode cX12_ofLoad 63 = .ok (.aload_n 0, 1) := by decide +kernel
theorem dX12_ofLoad_64 : decode cX12_ofLoad 64 = .ok (.iconst 0, 1) := by decide +kernel
theorem dX12_ofLoad_65 : decode cX12_ofLoad 65 = .ok (.invokevirtual 518, 3) := by decide +kernel
theorem dX12_ofLoad_68 : decode cX12_ofLoad 68 = .ok (.ireturn, 1) := by decide +kernel
theorem dX12_ofLoad_69 : decode cX12_ofLoad 69 = .ok (.aload_n 0, 1) := by decide +kernel
theorem dX12_ofLoad_70 : decode cX12_ofLoad 70 = .ok (.invokevirtual 521, 3) := by decide +kernel
theorem dX12_ofLoad_73 : decode cX12_ofLoad 73 = .ok (.ireturn, 1) := by decide +kernel
theorem dX12_ofLoad_74 : decode cX12_ofLoad 74 = .ok (.aload_n 0, 1) := by decide +kernel
theorem dX12_ofLoad_75 : decode cX12_ofLoad 75 = .ok (.iconst 1, 1) := by decide +kernel
theorem dX12_ofLoad_76 : decode cX12_ofLoad 76 = .ok (.invokevirtual 518, 3) := by decide +kernel
theorem dX12_ofLoad_79 : decode cX12_ofLoad 79 = .ok (.ireturn, 1) := by decide +kernel
theorem dX12_ofLoad_80 : decode cX12_ofLoad 80 = .ok (.aload_n 0, 1) := by decide +kernel
theorem dX12_ofLoad_81 : decode cX12_ofLoad 81 = .ok (.invokevirtual 524, 3) := by decide +kernel
theorem dX12_ofLoad_84 : decode cX12_ofLoad 84 = .ok (.ireturn, 1) := by decide +kernel
theorem dX12_load_0 : decode cX12_load 0 = .ok (.aload_n 0, 1) := by decide +kernel
theorem dX12_load_1 : decode cX12_load 1 = .ok (.iconst 0, 1) := by decide +kernel
theorem dX12_load_2 : decode cX12_load 2 = .ok (.putfield 88, 3) := by decide +kernel
theorem dX12_load_5 : decode cX12_load 5 = .ok (.aload_n 0, 1) := by decide +kernel
theorem dX12_load_6 : decode cX12_load 6 = .ok (.iload_n 1, 1) := by decide +kernel
theorem dX12_load_7 : decode cX12_load 7 = .ok (.invokevirtual 241, 3) := by decide +kernel
theorem dX12_load_10 : decode cX12_load 10 = .ok (.ifCond .ne 6, 3) := by decide +kernel
theorem dX12_load_13 : decode cX12_load 13 = .ok (.bipush (-2), 2) := by decide +kernel
theorem dX12_load_15 : decode cX12_load 15 = .ok (.ireturn, 1) := by decide +kernel
theorem dX12_load_16 : decode cX12_load 16 = .ok (.iload_n 2, 1) := by decide +kernel
theorem dX12_load_17 : decode cX12_load 17 = .ok (.bipush 20, 2) := by decide +kernel
theorem dX12_load_19 : decode cX12_load 19 = .ok (.if_icmp .lt 27, 3) := by decide +kernel
theorem dX12_load_22 : decode cX12_load 22 = .ok (.iload_n 2, 1) := by decide +kernel
theorem dX12_load_23 : decode cX12_load 23 = .ok (.bipush 20, 2) := by decide +kernel
theorem dX12_load_25 : decode cX12_load 25 = .ok (.isub, 1) := by decide +kernel
theorem dX12_load_26 : decode cX12_load 26 = .ok (.aload_n 0, 1) := by decide +kernel
theorem dX12_load_27 : decode cX12_load 27 = .ok (.getfield 232, 3) := by decide +kernel
theorem dX12_load_30 : decode cX12_load 30 = .ok (.if_icmp .ge 14, 3) := by decide +kernel
theorem dX12_load_33 : decode cX12_load 33 = .ok (.aload_n 0, 1) := by decide +kernel
theorem dX12_load_34 : decode cX12_load 34 = .ok (.iload_n 2, 1) := by decide +kernel
theorem dX12_load_35 : decode cX12_load 35 = .ok (.bipush 20, 2) := by decide +kernel
theorem dX12_load_37 : decode cX12_load 37 = .ok (.isub, 1) := by decide +kernel
theorem dX12_load_38 : decode cX12_load 38 = .ok (.invokevirtual 512, 3) := by decide +kernel
theorem dX12_load_41 : decode cX12_load 41 = .ok (.goto 4, 3) := by decide +kernel
theorem dX12_load_44 : decode cX12_load 44 = .ok (.iconst (-1), 1) := by decide +kernel
theorem dX12_load_45 : decode cX12_load 45 = .ok (.ireturn, 1) := by decide +kernel
theorem dX12_load_46 : decode cX12_load 46 = .ok (.iload_n 2, 1) := by decide +kernel
theorem dX12_load_47 : decode cX12_load 47 = .ok (.iconst 2, 1) := by decide +kernel
theorem dX12_load_48 : decode cX12_load 48 = .ok (.bipush 7, 2) := by decide +kernel
theorem dX12_load_50 : decode cX12_load 50 = .ok (.invokestatic 100, 3) := by decide +kernel
theorem dX12_load_53 : decode cX12_load 53 = .ok (.ifCond .eq 9, 3) := by decide +kernel
theorem dX12_load_56 : decode cX12_load 56 = .ok (.aload_n 0, 1) := by decide +kernel
theorem dX12_load_57 : decode cX12_load 57 = .ok (.iload_n 2, 1) := by decide +kernel
theorem dX12_load_58 : decode cX12_load 58 = .ok (.invokevirtual 527, 3) := by decide +kernel
theorem dX12_load_61 : decode cX12_load 61 = .ok (.ireturn, 1) := by decide +kernel
theorem dX12_load_62 : decode cX12_load 62 = .ok (.iload_n 2, 1) := by decide +kernel
theorem dX12_load_63 : decode cX12_load 63 = .ok (.tableswitch 131 0 12 #[65, 65, 131, 131, 131, 131, 131, 131, 85, 107, 112, 117, 126], 65) := by decide +kernel
theorem dX12_load_128 : decode cX12_load 128 = .ok (.aload_n 0, 1) := by decide +kernel
theorem dX12_load_129 : decode cX12_load 129 = .ok (.invokevirtual 530, 3) := by decide +kernel
theorem dX12_load_132 : decode cX12_load 132 = .ok (.bipush 60, 2) := by decide +kernel
theorem dX12_load_134 : decode cX12_load 134 = .ok (.iload_n 2, 1) := by decide +kernel
theorem dX12_load_135 : decode cX12_load 135 = .ok (.iconst 1, 1) := by decide +kernel
theorem dX12_load_136 : decode cX12_load 136 = .ok (.if_icmp .ne 7, 3) := by decide +kernel
theorem dX12_load_139 : decode cX12_load 139 = .ok (.iconst 1, 1) := by decide +kernel
theorem dX12_load_140 : decode cX12_load 140 = .ok (.goto 4, 3) := by decide +kernel
theorem dX12_load_143 : decode cX12_load 143 = .ok (.iconst 0, 1) := by decide +kernel
theorem dX12_load_144 : decode cX12_load 144 = .ok (.invokestatic 440, 3) := by decide +kernel
theorem dX12_load_147 : decode cX12_load 147 = .ok (.ireturn, 1) := by decide +kernel
theorem dX12_load_148 : decode cX12_load 148 = .ok (.aload_n 0, 1) := by decide +kernel
theorem dX12_load_149 : decode cX12_load 149 = .ok (.getfield 232, 3) := by decide +kernel
theorem dX12_load_152 : decode cX12_load 152 = .ok (.ifCond .eq 12, 3) := by decide +kernel
theorem dX12_load_155 : decode cX12_load 155 = .ok (.aload_n 0, 1) := by decide +kernel
theorem dX12_load_156 : decode cX12_load 156 = .ok (.invokevirtual 533, 3) := by decide +kernel
theorem dX12_load_159 : decode cX12_load 159 = .ok (.bipush 99, 2) := by decide +kernel
theorem dX12_load_161 : decode cX12_load 161 = .ok (.if_icmp .ne 7, 3) := by decide +kernel
theorem dX12_load_164 : decode cX12_load 164 = .ok (.iconst 1, 1) := by decide +kernel
theorem dX12_load_165 : decode cX12_load 165 = .ok (.goto 4, 3) := by decide +kernel
theorem dX12_load_168 : decode cX12_load 168 = .ok (.iconst 0, 1) := by decide +kernel
theorem dX12_load_169 : decode cX12_load 169 = .ok (.ireturn, 1) := by decide +kernel
theorem dX12_load_170 : decode cX12_load 170 = .ok (.aload_n 0, 1) := by decide +kernel
theorem dX12_load_171 : decode cX12_load 171 = .ok (.invokevirtual 533, 3) := by decide +kernel
theorem dX12_load_174 : decode cX12_load 174 = .ok (.ireturn, 1) := by decide +kernel
theorem dX12_load_175 : decode cX12_load 175 = .ok (.aload_n 0, 1) := by decide +kernel
theorem dX12_load_176 : decode cX12_load 176 = .ok (.invokevirtual 536, 3) := by decide +kernel
theorem dX12_load_179 : decode cX12_load 179 = .ok (.ireturn, 1) := by decide +kernel
theorem dX12_load_180 : decode cX12_load 180 = .ok (.aload_n 0, 1) := by decide +kernel
theorem dX12_load_181 : decode cX12_load 181 = .ok (.aload_n 0, 1) := by decide +kernel
theorem dX12_load_182 : decode cX12_load 182 = .ok (.invokevirtual 536, 3) := by decide +kernel
theorem dX12_load_185 : decode cX12_load 185 = .ok (.invokevirtual 509, 3) := by decide +kernel
theorem dX12_load_188 : decode cX12_load 188 = .ok (.ireturn, 1) := by decide +kernel
theorem dX12_load_189 : decode cX12_load 189 = .ok (.aload_n 0, 1) := by decide +kernel
theorem dX12_load_190 : decode cX12_load 190 = .ok (.invokevirtual 539, 3) := by decide +kernel
theorem dX12_load_193 : decode cX12_load 193 = .ok (.ireturn, 1) := by decide +kernel
theorem dX12_load_194 : decode cX12_load 194 = .ok (.bipush (-2), 2) := by decide +kernel
theorem dX12_load_196 : decode cX12_load 196 = .ok (.ireturn, 1) := by decide +kernel
theorem dX12_after_0 : decode cX12_after 0 = .ok (.aload_n 0, 1) := by decide +kernel
theorem dX12_after_1 : decode cX12_after 1 = .ok (.iconst 0, 1) := by decide +kernel
theorem dX12_after_2 : decode cX12_after 2 = .ok (.putfield 88, 3) := by decide +kernel
theorem dX12_after_5 : decode cX12_after 5 = .ok (.aload_n 0, 1) := by decide +kernel
theorem dX12_after_6 : decode cX12_after 6 = .ok (.iload_n 1, 1) := by decide +kernel
theorem dX12_after_7 : decode cX12_after 7 = .ok (.iload_n 2, 1) := by decide +kernel
theorem dX12_after_8 : decode cX12_after 8 = .ok (.invokevirtual 319, 3) := by decide +kernel
theorem dX12_after_11 : decode cX12_after 11 = .ok (.ifCond .eq 12, 3) := by decide +kernel
theorem dX12_after_14 : decode cX12_after 14 = .ok (.iload_n 3, 1) := by decide +kernel
theorem dX12_after_15 : decode cX12_after 15 = .ok (.iconst 0, 1) := by decide +kernel
theorem dX12_after_16 : decode cX12_after 16 = .ok (.iconst 5, 1) := by decide +kernel
theorem dX12_after_17 : decode cX12_after 17 = .ok (.invokestatic 100, 3) := by decide +kernel
theorem dX12_after_20 : decode cX12_after 20 = .ok (.ifCond .ne 6, 3) := by decide +kernel
theorem dX12_after_23 : decode cX12_after 23 = .ok (.bipush (-2), 2) := by decide +kernel
theorem dX12_after_25 : decode cX12_after 25 = .ok (.ireturn, 1) := by decide +kernel
theorem dX12_after_26 : decode cX12_after 26 = .ok (.iconst (-1), 1) := by decide +kernel
theorem dX12_after_27 : decode cX12_after 27 = .ok (.istore 4, 2) := by decide +kernel
theorem dX12_after_29 : decode cX12_after 29 = .ok (.iconst 1, 1) := by decide +kernel
theorem dX12_after_30 : decode cX12_after 30 = .ok (.istore 5, 2) := by decide +kernel
theorem dX12_after_32 : decode cX12_after 32 = .ok (.iconst 0, 1) := by decide +kernel
theorem dX12_after_33 : decode cX12_after 33 = .ok (.istore 6, 2) := by decide +kernel
theorem dX12_after_35 : decode cX12_after 35 = .ok (.iload 5, 2) := by decide +kernel
theorem dX12_after_37 : decode cX12_after 37 = .ok (.ifCond .eq 48, 3) := by decide +kernel
theorem dX12_after_40 : decode cX12_after 40 = .ok (.iload 6, 2) := by decide +kernel
theorem dX12_after_42 : decode cX12_after 42 = .ok (.aload_n 0, 1) := by decide +kernel
theorem dX12_after_43 : decode cX12_after 43 = .ok (.invokevirtual 304, 3) := by decide +kernel
theorem dX12_after_46 : decode cX12_after 46 = .ok (.if_icmp .ge 39, 3) := by decide +kernel
theorem dX12_after_49 : decode cX12_after 49 = .ok (.aload_n 0, 1) := by decide +kernel
theorem dX12_after_50 : decode cX12_after 50 = .ok (.iload 6, 2) := by decide +kernel
theorem dX12_after_52 : decode cX12_after 52 = .ok (.invokevirtual 313, 3) := by decide +kernel
theorem dX12_after_55 : decode cX12_after 55 = .ok (.istore 5, 2) := by decide +kernel
theorem dX12_after_57 : decode cX12_after 57 = .ok (.iload 4, 2) := by decide +kernel
theorem dX12_after_59 : decode cX12_after 59 = .ok (.iconst (-1), 1) := by decide +kernel
theorem dX12_after_60 : decode cX12_after 60 = .ok (.if_icmp .ne 15, 3) := by decide +kernel
theorem dX12_after_63 : decode cX12_after 63 = .ok (.aload_n 0, 1) := by decide +kernel
theorem dX12_after_64 : decode cX12_after 64 = .ok (.getfield 253, 3) := by decide +kernel
theorem dX12_after_67 : decode cX12_after 67 = .ok (.ifCond .le 8, 3) := by decide +kernel
theorem dX12_after_70 : decode cX12_after 70 = .ok (.iload 6, 2) := by decide +kernel
theorem dX12_after_72 : decode cX12_after 72 = .ok (.goto 5, 3) := by decide +kernel
theorem dX12_after_75 : decode cX12_after 75 = .ok (.iload 4, 2) := by decide +kernel
theorem dX12_after_77 : decode cX12_after 77 = .ok (.istore 4, 2) := by decide +kernel
theorem dX12_after_79 : decode cX12_after 79 = .ok (.iinc 6 1, 3) := by decide +kernel
theorem dX12_after_82 : decode cX12_after 82 = .ok (.goto (-47), 3) := by decide +kernel
theorem dX12_after_85 : decode cX12_after 85 = .ok (.iconst (-1), 1) := by decide +kernel
theorem dX12_after_86 : decode cX12_after 86 = .ok (.istore 6, 2) := by decide +kernel
theorem dX12_after_88 : decode cX12_after 88 = .ok (.iconst 0, 1) := by decide +kernel
theorem dX12_after_89 : decode cX12_after 89 = .ok (.istore 7, 2) := by decide +kernel
theorem dX12_after_91 : decode cX12_after 91 = .ok (.iload 7, 2) := by decide +kernel
theorem dX12_after_93 : decode cX12_after 93 = .ok (.aload_n 0, 1) := by decide +kernel
theorem dX12_after_94 : decode cX12_after 94 = .ok (.getfield 232, 3) := by decide +kernel
theorem dX12_after_97 : decode cX12_after 97 = .ok (.if_icmp .ge 45, 3) := by decide +kernel
theorem dX12_after_100 : decode cX12_after 100 = .ok (.aload_n 0, 1) := by decide +kernel
theorem dX12_after_101 : decode cX12_after 101 = .ok (.getfield 50, 3) := by decide +kernel
theorem dX12_after_104 : decode cX12_after 104 = .ok (.iload 7, 2) := by decide +kernel
theorem dX12_after_106 : decode cX12_after 106 = .ok (.iaload, 1) := by decide +kernel
theorem dX12_after_107 : decode cX12_after 107 = .ok (.iload 6, 2) := by decide +kernel
theorem dX12_after_109 : decode cX12_after 109 = .ok (.iconst (-1), 1) := by decide +kernel
theorem dX12_after_110 : decode cX12_after 110 = .ok (.if_icmp .ne 7, 3) := by decide +kernel
theorem dX12_after_113 : decode cX12_after 113 = .ok (.iconst 0, 1) := by decide +kernel
theorem dX12_after_114 : decode cX12_after 114 = .ok (.goto 10, 3) := by decide +kernel
theorem dX12_after_117 : decode cX12_after 117 = .ok (.aload_n 0, 1) := by decide +kernel
theorem dX12_after_118 : decode cX12_after 118 = .ok (.getfield 50, 3) := by decide +kernel
theorem dX12_after_121 : decode cX12_after 121 = .ok (.iload 6, 2) := by decide +kernel
theorem dX12_after_123 : decode cX12_after 123 = .ok (.iaload, 1) := by decide +kernel
theorem dX12_after_124 : decode cX12_after 124 = .ok (.if_icmp .le 8, 3) := by decide +kernel
theorem dX12_after_127 : decode cX12_after 127 = .ok (.iload 7, 2) := by decide +kernel
theorem dX12_after_129 : decode cX12_after 129 = .ok (.goto 5, 3) := by decide +kernel
theorem dX12_after_132 : decode cX12_after 132 = .ok (.iload 6, 2) := by decide +kernel
theorem dX12_after_134 : decode cX12_after 134 = .ok (.istore 6, 2) := by decide +kernel
theorem dX12_after_136 : decode cX12_after 136 = .ok (.iinc 7 1, 3) := by decide +kernel
theorem dX12_after_139 : decode cX12_after 139 = .ok (.goto (-48), 3) := by decide +kernel
theorem dX12_after_142 : decode cX12_after 142 = .ok (.iload_n 3, 1) := by decide +kernel
theorem dX12_after_143 : decode cX12_after 143 = .ok (.tableswitch 54 0 4 #[33, 36, 41, 44, 49], 33) := by decide +kernel
theorem dX12_after_176 : decode cX12_after 176 = .ok (.iload 4, 2) := by decide +kernel
theorem dX12_after_178 : decode cX12_after 178 = .ok (.ireturn, 1) := by decide +kernel
theorem dX12_after_179 : decode cX12_after 179 = .ok (.aload_n 0, 1) := by decide +kernel
theorem dX12_after_180 : decode cX12_after 180 = .ok (.getfield 259, 3) := by decide +kernel
theorem dX12_after_183 : decode cX12_after 183 = .ok (.ireturn, 1) := by decide +kernel
theorem dX12_after_184 : decode cX12_after 184 = .ok (.iload 6, 2) := by decide +kernel
theorem dX12_after_186 : decode cX12_after 186 = .ok (.ireturn, 1) := by decide +kernel
theorem dX12_after_187 : decode cX12_after 187 = .ok (.aload_n 0, 1) := by decide +kernel
theorem dX12_after_188 : decode cX12_after 188 = .ok (.getfield 268, 3) := by decide +kernel
theorem dX12_after_191 : decode cX12_after 191 = .ok (.ireturn, 1) := by decide +kernel
theorem dX12_after_192 : decode cX12_after 192 = .ok (.aload_n 0, 1) := by decide +kernel
theorem dX12_after_193 : decode cX12_after 193 = .ok (.getfield 262, 3) := by decide +kernel
theorem dX12_after_196 : decode cX12_after 196 = .ok (.ireturn, 1) := by decide +kernel
theorem dX12_after_197 : decode cX12_after 197 = .ok (.aload_n 0, 1) := by decide +kernel
theorem dX12_after_198 : decode cX12_after 198 = .ok (.getfield 271, 3) := by decide +kernel
theorem dX12_after_201 : decode cX12_after 201 = .ok (.ireturn, 1) := by decide +kernel
theorem dX12_least_0 : decode cX12_least 0 = .ok (.aload_n 0, 1) := by decide +kernel
theorem dX12_least_1 : decode cX12_least 1 = .ok (.iconst 0, 1) := by decide +kernel
theorem dX12_least_2 : decode cX12_least 2 = .ok (.putfield 88, 3) := by decide +kernel
theorem dX12_least_5 : decode cX12_least 5 = .ok (.aload_n 0, 1) := by decide +kernel
theorem dX12_least_6 : decode cX12_least 6 = .ok (.iload_n 2, 1) := by decide +kernel
theorem dX12_least_7 : decode cX12_least 7 = .ok (.invokevirtual 447, 3) := by decide +kernel
theorem dX12_least_10 : decode cX12_least 10 = .ok (.ifCond .eq 20, 3) := by decide +kernel
theorem dX12_least_13 : decode cX12_least 13 = .ok (.aload_n 0, 1) := by decide +kernel
theorem dX12_least_14 : decode cX12_least 14 = .ok (.iload_n 1, 1) := by decide +kernel
theorem dX12_least_15 : decode cX12_least 15 = .ok (.invokevirtual 241, 3) := by decide +kernel
theorem dX12_least_18 : decode cX12_least 18 = .ok (.ifCond .eq 12, 3) := by decide +kernel
theorem dX12_least_21 : decode cX12_least 21 = .ok (.iload_n 3, 1) := by decide +kernel
theorem dX12_least_22 : decode cX12_least 22 = .ok (.iconst 0, 1) := by decide +kernel
theorem dX12_least_23 : decode cX12_least 23 = .ok (.iconst 2, 1) := by decide +kernel
theorem dX12_least_24 : decode cX12_least 24 = .ok (.invokestatic 100, 3) := by decide +kernel
theorem dX12_least_27 : decode cX12_least 27 = .ok (.ifCond .ne 5, 3) := by decide +kernel
theorem dX12_least_30 : decode cX12_least 30 = .ok (.iconst (-1), 1) := by decide +kernel
theorem dX12_least_31 : decode cX12_least 31 = .ok (.ireturn, 1) := by decide +kernel
theorem dX12_least_32 : decode cX12_least 32 = .ok (.aload_n 0, 1) := by decide +kernel
theorem dX12_least_33 : decode cX12_least 33 = .ok (.iconst (-1), 1) := by decide +kernel
theorem dX12_least_34 : decode cX12_least 34 = .ok (.invokevirtual 490, 3) := by decide +kernel
theorem dX12_least_37 : decode cX12_least 37 = .ok (.aload_n 0, 1) := by decide +kernel
theorem dX12_least_38 : decode cX12_least 38 = .ok (.getfield 462, 3) := by decide +kernel
theorem dX12_least_41 : decode cX12_least 41 = .ok (.ifCond .ne 7, 3) := by decide +kernel
theorem dX12_least_44 : decode cX12_least 44 = .ok (.iconst (-1), 1) := by decide +kernel
theorem dX12_least_45 : decode cX12_least 45 = .ok (.goto 30, 3) := by decide +kernel
theorem dX12_least_48 : decode cX12_least 48 = .ok (.iload_n 3, 1) := by decide +kernel
theorem dX12_least_49 : decode cX12_least 49 = .ok (.ifCond .ne 10, 3) := by decide +kernel
theorem dX12_least_52 : decode cX12_least 52 = .ok (.aload_n 0, 1) := by decide +kernel
theorem dX12_least_53 : decode cX12_least 53 = .ok (.getfield 471, 3) := by decide +kernel
theorem dX12_least_56 : decode cX12_least 56 = .ok (.goto 19, 3) := by decide +kernel
theorem dX12_least_59 : decode cX12_least 59 = .ok (.iload_n 3, 1) := by decide +kernel
theorem dX12_least_60 : decode cX12_least 60 = .ok (.iconst 1, 1) := by decide +kernel
theorem dX12_least_61 : decode cX12_least 61 = .ok (.if_icmp .ne 10, 3) := by decide +kernel
theorem dX12_least_64 : decode cX12_least 64 = .ok (.aload_n 0, 1) := by decide +kernel
theorem dX12_least_65 : decode cX12_least 65 = .ok (.getfield 474, 3) := by decide +kernel
theorem dX12_least_68 : decode cX12_least 68 = .ok (.goto 7, 3) := by decide +kernel
theorem dX12_least_71 : decode cX12_least 71 = .ok (.aload_n 0, 1) := by decide +kernel
theorem dX12_least_72 : decode cX12_least 72 = .ok (.getfield 477, 3) := by decide +kernel
theorem dX12_least_75 : decode cX12_least 75 = .ok (.ireturn, 1) := by decide +kernel
theorem dX12_count_0 : decode cX12_count 0 = .ok (.aload_n 0, 1) := by decide +kernel
theorem dX12_count_1 : decode cX12_count 1 = .ok (.iconst 0, 1) := by decide +kernel
theorem dX12_count_2 : decode cX12_count 2 = .ok (.putfield 88, 3) := by decide +kernel
theorem dX12_count_5 : decode cX12_count 5 = .ok (.iload_n 1, 1) := by decide +kernel
theorem dX12_count_6 : decode cX12_count 6 = .ok (.iconst 0, 1) := by decide +kernel
theorem dX12_count_7 : decode cX12_count 7 = .ok (.iconst 2, 1) := by decide +kernel
theorem dX12_count_8 : decode cX12_count 8 = .ok (.invokestatic 100, 3) := by decide +kernel
theorem dX12_count_11 : decode cX12_count 11 = .ok (.ifCond .eq 12, 3) := by decide +kernel
theorem dX12_count_14 : decode cX12_count 14 = .ok (.aload_n 0, 1) := by decide +kernel
theorem dX12_count_15 : decode cX12_count 15 = .ok (.getfield 23, 3) := by decide +kernel
theorem dX12_count_18 : decode cX12_count 18 = .ok (.iload_n 1, 1) := by decide +kernel
theorem dX12_count_19 : decode cX12_count 19 = .ok (.iaload, 1) := by decide +kernel
theorem dX12_count_20 : decode cX12_count 20 = .ok (.goto 5, 3) := by decide +kernel
theorem dX12_count_23 : decode cX12_count 23 = .ok (.bipush (-2), 2) := by decide +kernel
theorem dX12_count_25 : decode cX12_count 25 = .ok (.ireturn, 1) := by decide +kernel
theorem dX12_image_0 : decode cX12_image 0 = .ok (.aload_n 0, 1) := by decide +kernel
theorem dX12_image_1 : decode cX12_image 1 = .ok (.iconst 0, 1) := by decide +kernel
theorem dX12_image_2 : decode cX12_image 2 = .ok (.putfield 88, 3) := by decide +kernel
theorem dX12_image_5 : decode cX12_image 5 = .ok (.iload_n 1, 1) := by decide +kernel
theorem dX12_image_6 : decode cX12_image 6 = .ok (.iconst 0, 1) := by decide +kernel
theorem dX12_image_7 : decode cX12_image 7 = .ok (.iconst 2, 1) := by decide +kernel
theorem dX12_image_8 : decode cX12_image 8 = .ok (.invokestatic 100, 3) := by decide +kernel
theorem dX12_image_11 : decode cX12_image 11 = .ok (.ifCond .ne 5, 3) := by decide +kernel
theorem dX12_image_14 : decode cX12_image 14 = .ok (.iconst 0, 1) := by decide +kernel
theorem dX12_image_15 : decode cX12_image 15 = .ok (.ireturn, 1) := by decide +kernel
theorem dX12_image_16 : decode cX12_image 16 = .ok (.aload_n 0, 1) := by decide +kernel
theorem dX12_image_17 : decode cX12_image 17 = .ok (.iconst 0, 1) := by decide +kernel
theorem dX12_image_18 : decode cX12_image 18 = .ok (.iload_n 1, 1) := by decide +kernel
theorem dX12_image_19 : decode cX12_image 19 = .ok (.iconst 1, 1) := by decide +kernel
theorem dX12_image_20 : decode cX12_image 20 = .ok (.iadd, 1) := by decide +kernel
theorem dX12_image_21 : decode cX12_image 21 = .ok (.invokevirtual 542, 3) := by decide +kernel
theorem dX12_image_24 : decode cX12_image 24 = .ok (.aload_n 0, 1) := by decide +kernel
theorem dX12_image_25 : decode cX12_image 25 = .ok (.getfield 84, 3) := by decide +kernel
theorem dX12_image_28 : decode cX12_image 28 = .ok (.iload_n 1, 1) := by decide +kernel
theorem dX12_image_29 : decode cX12_image 29 = .ok (.iconst 1, 1) := by decide +kernel
theorem dX12_image_30 : decode cX12_image 30 = .ok (.bastore, 1) := by decide +kernel
theorem dX12_image_31 : decode cX12_image 31 = .ok (.iconst 1, 1) := by decide +kernel
theorem dX12_image_32 : decode cX12_image 32 = .ok (.ireturn, 1) := by decide +kernel
theorem dX12_again_0 : decode cX12_again 0 = .ok (.aload_n 0, 1) := by decide +kernel
theorem dX12_again_1 : decode cX12_again 1 = .ok (.iconst 0, 1) := by decide +kernel
theorem dX12_again_2 : decode cX12_again 2 = .ok (.putfield 88, 3) := by decide +kernel
theorem dX12_again_5 : decode cX12_again 5 = .ok (.iload_n 1, 1) := by decide +kernel
theorem dX12_again_6 : decode cX12_again 6 = .ok (.iconst 0, 1) := by decide +kernel
theorem dX12_again_7 : decode cX12_again 7 = .ok (.iconst 2, 1) := by decide +kernel
theorem dX12_again_8 : decode cX12_again 8 = .ok (.invokestatic 100, 3) := by decide +kernel
theorem dX12_again_11 : decode cX12_again 11 = .ok (.ifCond .eq 12, 3) := by decide +kernel
theorem dX12_again_14 : decode cX12_again 14 = .ok (.aload_n 0, 1) := by decide +kernel
theorem dX12_again_15 : decode cX12_again 15 = .ok (.getfield 84, 3) := by decide +kernel
theorem dX12_again_18 : decode cX12_again 18 = .ok (.iload_n 1, 1) := by decide +kernel
theorem dX12_again_19 : decode cX12_again 19 = .ok (.baload, 1) := by decide +kernel
theorem dX12_again_20 : decode cX12_again 20 = .ok (.ifCond .ne 5, 3) := by decide +kernel
theorem dX12_again_23 : decode cX12_again 23 = .ok (.iconst 0, 1) := by decide +kernel
theorem dX12_again_24 : decode cX12_again 24 = .ok (.ireturn, 1) := by decide +kernel
theorem dX12_again_25 : decode cX12_again 25 = .ok (.aload_n 0, 1) := by decide +kernel
theorem dX12_again_26 : decode cX12_again 26 = .ok (.iload_n 1, 1) := by decide +kernel
theorem dX12_again_27 : decode cX12_again 27 = .ok (.iconst 1, 1) := by decide +kernel
theorem dX12_again_28 : decode cX12_again 28 = .ok (.iadd, 1) := by decide +kernel
theorem dX12_again_29 : decode cX12_again 29 = .ok (.iconst 0, 1) := by decide +kernel
theorem dX12_again_30 : decode cX12_again 30 = .ok (.invokevirtual 542, 3) := by decide +kernel
theorem dX12_again_33 : decode cX12_again 33 = .ok (.iconst 1, 1) := by decide +kernel
theorem dX12_again_34 : decode cX12_again 34 = .ok (.ireturn, 1) := by decide +kernel
theorem dJ6_bitCount_0f7a4_0 : decode cJ6_bitCount_0f7a4 0 = .ok (.iload_n 0, 1) := by decide +kernel
theorem dJ6_bitCount_0f7a4_1 : decode cJ6_bitCount_0f7a4 1 = .ok (.iload_n 0, 1) := by decide +kernel
theorem dJ6_bitCount_0f7a4_2 : decode cJ6_bitCount_0f7a4 2 = .ok (.iconst 1, 1) := by decide +kernel
theorem dJ6_bitCount_0f7a4_3 : decode cJ6_bitCount_0f7a4 3 = .ok (.iushr, 1) := by decide +kernel
theorem dJ6_bitCount_0f7a4_4 : decode cJ6_bitCount_0f7a4 4 = .ok (.ldc_w 265, 3) := by decide +kernel
theorem dJ6_bitCount_0f7a4_7 : decode cJ6_bitCount_0f7a4 7 = .ok (.iand, 1) := by decide +kernel
theorem dJ6_bitCount_0f7a4_8 : decode cJ6_bitCount_0f7a4 8 = .ok (.isub, 1) := by decide +kernel
theorem dJ6_bitCount_0f7a4_9 : decode cJ6_bitCount_0f7a4 9 = .ok (.istore_n 0, 1) := by decide +kernel
theorem dJ6_bitCount_0f7a4_10 : decode cJ6_bitCount_0f7a4 10 = .ok (.iload_n 0, 1) := by decide +kernel
theorem dJ6_bitCount_0f7a4_11 : decode cJ6_bitCount_0f7a4 11 = .ok (.ldc_w 266, 3) := by decide +kernel
theorem dJ6_bitCount_0f7a4_14 : decode cJ6_bitCount_0f7a4 14 = .ok (.iand, 1) := by decide +kernel
theorem dJ6_bitCount_0f7a4_15 : decode cJ6_bitCount_0f7a4 15 = .ok (.iload_n 0, 1) := by decide +kernel
theorem dJ6_bitCount_0f7a4_16 : decode cJ6_bitCount_0f7a4 16 = .ok (.iconst 2, 1) := by decide +kernel
theorem dJ6_bitCount_0f7a4_17 : decode cJ6_bitCount_0f7a4 17 = .ok (.iushr, 1) := by decide +kernel
theorem dJ6_bitCount_0f7a4_18 : decode cJ6_bitCount_0f7a4 18 = .ok (.ldc_w 266, 3) := by decide +kernel
theorem dJ6_bitCount_0f7a4_21 : decode cJ6_bitCount_0f7a4 21 = .ok (.iand, 1) := by decide +kernel
theorem dJ6_bitCount_0f7a4_22 : decode cJ6_bitCount_0f7a4 22 = .ok (.iadd, 1) := by decide +kernel
theorem dJ6_bitCount_0f7a4_23 : decode cJ6_bitCount_0f7a4 23 = .ok (.istore_n 0, 1) := by decide +kernel
theorem dJ6_bitCount_0f7a4_24 : decode cJ6_bitCount_0f7a4 24 = .ok (.iload_n 0, 1) := by decide +kernel
theorem dJ6_bitCount_0f7a4_25 : decode cJ6_bitCount_0f7a4 25 = .ok (.iload_n 0, 1) := by decide +kernel
theorem dJ6_bitCount_0f7a4_26 : decode cJ6_bitCount_0f7a4 26 = .ok (.iconst 4, 1) := by decide +kernel
theorem dJ6_bitCount_0f7a4_27 : decode cJ6_bitCount_0f7a4 27 = .ok (.iushr, 1) := by decide +kernel
theorem dJ6_bitCount_0f7a4_28 : decode cJ6_bitCount_0f7a4 28 = .ok (.iadd, 1) := by decide +kernel
theorem dJ6_bitCount_0f7a4_29 : decode cJ6_bitCount_0f7a4 29 = .ok (.ldc_w 267, 3) := by decide +kernel
theorem dJ6_bitCount_0f7a4_32 : decode cJ6_bitCount_0f7a4 32 = .ok (.iand, 1) := by decide +kernel
theorem dJ6_bitCount_0f7a4_33 : decode cJ6_bitCount_0f7a4 33 = .ok (.istore_n 0, 1) := by decide +kernel
theorem dJ6_bitCount_0f7a4_34 : decode cJ6_bitCount_0f7a4 34 = .ok (.iload_n 0, 1) := by decide +kernel
theorem dJ6_bitCount_0f7a4_35 : decode cJ6_bitCount_0f7a4 35 = .ok (.iload_n 0, 1) := by decide +kernel
theorem dJ6_bitCount_0f7a4_36 : decode cJ6_bitCount_0f7a4 36 = .ok (.bipush 8, 2) := by decide +kernel
theorem dJ6_bitCount_0f7a4_38 : decode cJ6_bitCount_0f7a4 38 = .ok (.iushr, 1) := by decide +kernel
theorem dJ6_bitCount_0f7a4_39 : decode cJ6_bitCount_0f7a4 39 = .ok (.iadd, 1) := by decide +kernel
theorem dJ6_bitCount_0f7a4_40 : decode cJ6_bitCount_0f7a4 40 = .ok (.istore_n 0, 1) := by decide +kernel
theorem dJ6_bitCount_0f7a4_41 : decode cJ6_bitCount_0f7a4 41 = .ok (.iload_n 0, 1) := by decide +kernel
theorem dJ6_bitCount_0f7a4_42 : decode cJ6_bitCount_0f7a4 42 = .ok (.iload_n 0, 1) := by decide +kernel
theorem dJ6_bitCount_0f7a4_43 : decode cJ6_bitCount_0f7a4 43 = .ok (.bipush 16, 2) := by decide +kernel
theorem dJ6_bitCount_0f7a4_45 : decode cJ6_bitCount_0f7a4 45 = .ok (.iushr, 1) := by decide +kernel
theorem dJ6_bitCount_0f7a4_46 : decode cJ6_bitCount_0f7a4 46 = .ok (.iadd, 1) := by decide +kernel
theorem dJ6_bitCount_0f7a4_47 : decode cJ6_bitCount_0f7a4 47 = .ok (.istore_n 0, 1) := by decide +kernel
theorem dJ6_bitCount_0f7a4_48 : decode cJ6_bitCount_0f7a4 48 = .ok (.iload_n 0, 1) := by decide +kernel
theorem dJ6_bitCount_0f7a4_49 : decode cJ6_bitCount_0f7a4 49 = .ok (.bipush 63, 2) := by decide +kernel
theorem dJ6_bitCount_0f7a4_51 : decode cJ6_bitCount_0f7a4 51 = .ok (.iand, 1) := by decide +kernel
theorem dJ6_bitCount_0f7a4_52 : decode cJ6_bitCount_0f7a4 52 = .ok (.ireturn, 1) := by decide +kernel
theorem dJ9_abs_0f7a4_0 : decode cJ9_abs_0f7a4 0 = .ok (.iload_n 0, 1) := by decide +kernel
theorem dJ9_abs_0f7a4_1 : decode cJ9_abs_0f7a4 1 = .ok (.ifCond .ge 8, 3) := by decide +kernel
theorem dJ9_abs_0f7a4_4 : decode cJ9_abs_0f7a4 4 = .ok (.iload_n 0, 1) := by decide +kernel
theorem dJ9_abs_0f7a4_5 : decode cJ9_abs_0f7a4 5 = .ok (.ineg, 1) := by decide +kernel
theorem dJ9_abs_0f7a4_6 : decode cJ9_abs_0f7a4 6 = .ok (.goto 4, 3) := by decide +kernel
theorem dJ9_abs_0f7a4_9 : decode cJ9_abs_0f7a4 9 = .ok (.iload_n 0, 1) := by decide +kernel
theorem dJ9_abs_0f7a4_10 : decode cJ9_abs_0f7a4 10 = .ok (.ireturn, 1) := by decide +kernel
theorem dJ9_max_7cf53_0 : decode cJ9_max_7cf53 0 = .ok (.iload_n 0, 1) := by decide +kernel
theorem dJ9_max_7cf53_1 : decode cJ9_max_7cf53 1 = .ok (.iload_n 1, 1) := by decide +kernel
theorem dJ9_max_7cf53_2 : decode cJ9_max_7cf53 2 = .ok (.if_icmp .lt 7, 3) := by decide +kernel
theorem dJ9_max_7cf53_5 : decode cJ9_max_7cf53 5 = .ok (.iload_n 0, 1) := by decide +kernel
theorem dJ9_max_7cf53_6 : decode cJ9_max_7cf53 6 = .ok (.goto 4, 3) := by decide +kernel
theorem dJ9_max_7cf53_9 : decode cJ9_max_7cf53 9 = .ok (.iload_n 1, 1) := by decide +kernel
theorem dJ9_max_7cf53_10 : decode cJ9_max_7cf53 10 = .ok (.ireturn, 1) := by decide +kernel
theorem dJ9_min_7cf53_0 : decode cJ9_min_7cf53 0 = .ok (.iload_n 0, 1) := by decide +kernel
theorem dJ9_min_7cf53_1 : decode cJ9_min_7cf53 1 = .ok (.iload_n 1, 1) := by decide +kernel
theorem dJ9_min_7cf53_2 : decode cJ9_min_7cf53 2 = .ok (.if_icmp .gt 7, 3) := by decide +kernel
theorem dJ9_min_7cf53_5 : decode cJ9_min_7cf53 5 = .ok (.iload_n 0, 1) := by decide +kernel
theorem dJ9_min_7cf53_6 : decode cJ9_min_7cf53 6 = .ok (.goto 4, 3) := by decide +kernel
theorem dJ9_min_7cf53_9 : decode cJ9_min_7cf53 9 = .ok (.iload_n 1, 1) := by decide +kernel
theorem dJ9_min_7cf53_10 : decode cJ9_min_7cf53 10 = .ok (.ireturn, 1) := by decide +kernel
theorem dJ0_length_8abf5_0 : decode cJ0_length_8abf5 0 = .ok (.aload_n 0, 1) := by decide +kernel
theorem dJ0_length_8abf5_1 : decode cJ0_length_8abf5 1 = .ok (.getfield 9, 3) := by decide +kernel
theorem dJ0_length_8abf5_4 : decode cJ0_length_8abf5 4 = .ok (.arraylength, 1) := by decide +kernel
theorem dJ0_length_8abf5_5 : decode cJ0_length_8abf5 5 = .ok (.aload_n 0, 1) := by decide +kernel
theorem dJ0_length_8abf5_6 : decode cJ0_length_8abf5 6 = .ok (.invokevirtual 335, 3) := by decide +kernel
theorem dJ0_length_8abf5_9 : decode cJ0_length_8abf5 9 = .ok (.ishr, 1) := by decide +kernel
theorem dJ0_length_8abf5_10 : decode cJ0_length_8abf5 10 = .ok (.ireturn, 1) := by decide +kernel
theorem dJ0_charAt_5068e_0 : decode cJ0_charAt_5068e 0 = .ok (.aload_n 0, 1) := by decide +kernel
theorem dJ0_charAt_5068e_1 : decode cJ0_charAt_5068e 1 = .ok (.invokevirtual 492, 3) := by decide +kernel
theorem dJ0_charAt_5068e_4 : decode cJ0_charAt_5068e 4 = .ok (.ifCond .eq 12, 3) := by decide +kernel
theorem dJ0_charAt_5068e_7 : decode cJ0_charAt_5068e 7 = .ok (.aload_n 0, 1) := by decide +kernel
theorem dJ0_charAt_5068e_8 : decode cJ0_charAt_5068e 8 = .ok (.getfield 9, 3) := by decide +kernel
theorem dJ0_charAt_5068e_11 : decode cJ0_charAt_5068e 11 = .ok (.iload_n 1, 1) := by decide +kernel
theorem dJ0_charAt_5068e_12 : decode cJ0_charAt_5068e 12 = .ok (.invokestatic 495, 3) := by decide +kernel
theorem dJ0_charAt_5068e_15 : decode cJ0_charAt_5068e 15 = .ok (.ireturn, 1) := by decide +kernel
theorem dJ0_charAt_5068e_16 : decode cJ0_charAt_5068e 16 = .ok (.aload_n 0, 1) := by decide +kernel
theorem dJ0_charAt_5068e_17 : decode cJ0_charAt_5068e 17 = .ok (.getfield 9, 3) := by decide +kernel
theorem dJ0_charAt_5068e_20 : decode cJ0_charAt_5068e 20 = .ok (.iload_n 1, 1) := by decide +kernel
theorem dJ0_charAt_5068e_21 : decode cJ0_charAt_5068e 21 = .ok (.invokestatic 498, 3) := by decide +kernel
theorem dJ0_charAt_5068e_24 : decode cJ0_charAt_5068e 24 = .ok (.ireturn, 1) := by decide +kernel
theorem dJ0_coder_7d493_0 : decode cJ0_coder_7d493 0 = .ok (.getstatic 38, 3) := by decide +kernel
theorem dJ0_coder_7d493_3 : decode cJ0_coder_7d493 3 = .ok (.ifCond .eq 10, 3) := by decide +kernel
theorem dJ0_coder_7d493_6 : decode cJ0_coder_7d493 6 = .ok (.aload_n 0, 1) := by decide +kernel
theorem dJ0_coder_7d493_7 : decode cJ0_coder_7d493 7 = .ok (.getfield 15, 3) := by decide +kernel
theorem dJ0_coder_7d493_10 : decode cJ0_coder_7d493 10 = .ok (.goto 4, 3) := by decide +kernel
theorem dJ0_coder_7d493_13 : decode cJ0_coder_7d493 13 = .ok (.iconst 1, 1) := by decide +kernel
theorem dJ0_coder_7d493_14 : decode cJ0_coder_7d493 14 = .ok (.ireturn, 1) := by decide +kernel
theorem dJ0_isLatin1_aae02_0 : decode cJ0_isLatin1_aae02 0 = .ok (.getstatic 38, 3) := by decide +kernel
theorem dJ0_isLatin1_aae02_3 : decode cJ0_isLatin1_aae02 3 = .ok (.ifCond .eq 14, 3) := by decide +kernel
theorem dJ0_isLatin1_aae02_6 : decode cJ0_isLatin1_aae02 6 = .ok (.aload_n 0, 1) := by decide +kernel
theorem dJ0_isLatin1_aae02_7 : decode cJ0_isLatin1_aae02 7 = .ok (.getfield 15, 3) := by decide +kernel
theorem dJ0_isLatin1_aae02_10 : decode cJ0_isLatin1_aae02 10 = .ok (.ifCond .ne 7, 3) := by decide +kernel
theorem dJ0_isLatin1_aae02_13 : decode cJ0_isLatin1_aae02 13 = .ok (.iconst 1, 1) := by decide +kernel
theorem dJ0_isLatin1_aae02_14 : decode cJ0_isLatin1_aae02 14 = .ok (.goto 4, 3) := by decide +kernel
theorem dJ0_isLatin1_aae02_17 : decode cJ0_isLatin1_aae02 17 = .ok (.iconst 0, 1) := by decide +kernel
theorem dJ0_isLatin1_aae02_18 : decode cJ0_isLatin1_aae02 18 = .ok (.ireturn, 1) := by decide +kernel
theorem dJ0_checkIndex_df160_0 : decode cJ0_checkIndex_df160 0 = .ok (.iload_n 0, 1) := by decide +kernel
theorem dJ0_checkIndex_df160_1 : decode cJ0_checkIndex_df160 1 = .ok (.iload_n 1, 1) := by decide +kernel
theorem dJ0_checkIndex_df160_2 : decode cJ0_checkIndex_df160 2 = .ok (.getstatic 1053, 3) := by decide +kernel
theorem dJ0_checkIndex_df160_5 : decode cJ0_checkIndex_df160 5 = .ok (.invokestatic 1059, 3) := by decide +kernel
theorem dJ0_checkIndex_df160_8 : decode cJ0_checkIndex_df160 8 = .ok (.pop, 1) := by decide +kernel
theorem dJ0_checkIndex_df160_9 : decode cJ0_checkIndex_df160 9 = .ok (.return_, 1) := by decide +kernel
theorem dJ1_charAt_3b067_0 : decode cJ1_charAt_3b067 0 = .ok (.iload_n 1, 1) := by decide +kernel
theorem dJ1_charAt_3b067_1 : decode cJ1_charAt_3b067 1 = .ok (.aload_n 0, 1) := by decide +kernel
theorem dJ1_charAt_3b067_2 : decode cJ1_charAt_3b067 2 = .ok (.arraylength, 1) := by decide +kernel
theorem dJ1_charAt_3b067_3 : decode cJ1_charAt_3b067 3 = .ok (.invokestatic 9, 3) := by decide +kernel
theorem dJ1_charAt_3b067_6 : decode cJ1_charAt_3b067 6 = .ok (.aload_n 0, 1) := by decide +kernel
theorem dJ1_charAt_3b067_7 : decode cJ1_charAt_3b067 7 = .ok (.iload_n 1, 1) := by decide +kernel
theorem dJ1_charAt_3b067_8 : decode cJ1_charAt_3b067 8 = .ok (.baload, 1) := by decide +kernel
theorem dJ1_charAt_3b067_9 : decode cJ1_charAt_3b067 9 = .ok (.sipush 255, 3) := by decide +kernel
theorem dJ1_charAt_3b067_12 : decode cJ1_charAt_3b067 12 = .ok (.iand, 1) := by decide +kernel
theorem dJ1_charAt_3b067_13 : decode cJ1_charAt_3b067 13 = .ok (.i2c, 1) := by decide +kernel
theorem dJ1_charAt_3b067_14 : decode cJ1_charAt_3b067 14 = .ok (.ireturn, 1) := by decide +kernel
theorem dJ2_getChar_3b067_0 : decode cJ2_getChar_3b067 0 = .ok (.getstatic 44, 3) := by decide +kernel
theorem dJ2_getChar_3b067_3 : decode cJ2_getChar_3b067 3 = .ok (.ifCond .ne 25, 3) := by decide +kernel
theorem dJ2_getChar_3b067_6 : decode cJ2_getChar_3b067 6 = .ok (.iload_n 1, 1) := by decide +kernel
theorem dJ2_getChar_3b067_7 : decode cJ2_getChar_3b067 7 = .ok (.ifCond .lt 11, 3) := by decide +kernel
theorem dJ2_getChar_3b067_10 : decode cJ2_getChar_3b067 10 = .ok (.iload_n 1, 1) := by decide +kernel
theorem dJ2_getChar_3b067_11 : decode cJ2_getChar_3b067 11 = .ok (.aload_n 0, 1) := by decide +kernel
theorem dJ2_getChar_3b067_12 : decode cJ2_getChar_3b067 12 = .ok (.invokestatic 48, 3) := by decide +kernel
theorem dJ2_getChar_3b067_15 : decode cJ2_getChar_3b067 15 = .ok (.if_icmp .lt 13, 3) := by decide +kernel
theorem dJ2_getChar_3b067_18 : decode cJ2_getChar_3b067 18 = .ok (.new 52, 3) := by decide +kernel
theorem dJ2_getChar_3b067_21 : decode cJ2_getChar_3b067 21 = .ok (.dup, 1) := by decide +kernel
theorem dJ2_getChar_3b067_22 : decode cJ2_getChar_3b067 22 = .ok (.ldc 54, 2) := by decide +kernel
theorem dJ2_getChar_3b067_24 : decode cJ2_getChar_3b067 24 = .ok (.invokespecial 56, 3) := by decide +kernel
theorem dJ2_getChar_3b067_27 : decode cJ2_getChar_3b067 27 = .ok (.athrow, 1) := by decide +kernel
theorem dJ2_getChar_3b067_28 : decode cJ2_getChar_3b067 28 = .ok (.iload_n 1, 1) := by decide +kernel
theorem dJ2_getChar_3b067_29 : decode cJ2_getChar_3b067 29 = .ok (.iconst 1, 1) := by decide +kernel
theorem dJ2_getChar_3b067_30 : decode cJ2_getChar_3b067 30 = .ok (.ishl, 1) := by decide +kernel
theorem dJ2_getChar_3b067_31 : decode cJ2_getChar_3b067 31 = .ok (.istore_n 1, 1) := by decide +kernel
theorem dJ2_getChar_3b067_32 : decode cJ2_getChar_3b067 32 = .ok (.aload_n 0, 1) := by decide +kernel
theorem dJ2_getChar_3b067_33 : decode cJ2_getChar_3b067 33 = .ok (.iload_n 1, 1) := by decide +kernel
theorem dJ2_getChar_3b067_34 : decode cJ2_getChar_3b067 34 = .ok (.iinc 1 1, 3) := by decide +kernel
theorem dJ2_getChar_3b067_37 : decode cJ2_getChar_3b067 37 = .ok (.baload, 1) := by decide +kernel
theorem dJ2_getChar_3b067_38 : decode cJ2_getChar_3b067 38 = .ok (.sipush 255, 3) := by decide +kernel
theorem dJ2_getChar_3b067_41 : decode cJ2_getChar_3b067 41 = .ok (.iand, 1) := by decide +kernel
theorem dJ2_getChar_3b067_42 : decode cJ2_getChar_3b067 42 = .ok (.getstatic 59, 3) := by decide +kernel
theorem dJ2_getChar_3b067_45 : decode cJ2_getChar_3b067 45 = .ok (.ishl, 1) := by decide +kernel
theorem dJ2_getChar_3b067_46 : decode cJ2_getChar_3b067 46 = .ok (.aload_n 0, 1) := by decide +kernel
theorem dJ2_getChar_3b067_47 : decode cJ2_getChar_3b067 47 = .ok (.iload_n 1, 1) := by decide +kernel
theorem dJ2_getChar_3b067_48 : decode cJ2_getChar_3b067 48 = .ok (.baload, 1) := by decide +kernel
theorem dJ2_getChar_3b067_49 : decode cJ2_getChar_3b067 49 = .ok (.sipush 255, 3) := by decide +kernel
theorem dJ2_getChar_3b067_52 : decode cJ2_getChar_3b067 52 = .ok (.iand, 1) := by decide +kernel
theorem dJ2_getChar_3b067_53 : decode cJ2_getChar_3b067 53 = .ok (.getstatic 63, 3) := by decide +kernel
theorem dJ2_getChar_3b067_56 : decode cJ2_getChar_3b067 56 = .ok (.ishl, 1) := by decide +kernel
theorem dJ2_getChar_3b067_57 : decode cJ2_getChar_3b067 57 = .ok (.ior, 1) := by decide +kernel
theorem dJ2_getChar_3b067_58 : decode cJ2_getChar_3b067 58 = .ok (.i2c, 1) := by decide +kernel
theorem dJ2_getChar_3b067_59 : decode cJ2_getChar_3b067 59 = .ok (.ireturn, 1) := by decide +kernel
theorem dJ2_length_9d52b_0 : decode cJ2_length_9d52b 0 = .ok (.aload_n 0, 1) := by decide +kernel
theorem dJ2_length_9d52b_1 : decode cJ2_length_9d52b 1 = .ok (.arraylength, 1) := by decide +kernel
theorem dJ2_length_9d52b_2 : decode cJ2_length_9d52b 2 = .ok (.iconst 1, 1) := by decide +kernel
theorem dJ2_length_9d52b_3 : decode cJ2_length_9d52b 3 = .ok (.ishr, 1) := by decide +kernel
theorem dJ2_length_9d52b_4 : decode cJ2_length_9d52b 4 = .ok (.ireturn, 1) := by decide +kernel
theorem dJ2_charAt_3b067_0 : decode cJ2_charAt_3b067 0 = .ok (.iload_n 1, 1) := by decide +kernel
theorem dJ2_charAt_3b067_1 : decode cJ2_charAt_3b067 1 = .ok (.aload_n 0, 1) := by decide +kernel
theorem dJ2_charAt_3b067_2 : decode cJ2_charAt_3b067 2 = .ok (.invokestatic 67, 3) := by decide +kernel
theorem dJ2_charAt_3b067_5 : decode cJ2_charAt_3b067 5 = .ok (.aload_n 0, 1) := by decide +kernel
theorem dJ2_charAt_3b067_6 : decode cJ2_charAt_3b067 6 = .ok (.iload_n 1, 1) := by decide +kernel
theorem dJ2_charAt_3b067_7 : decode cJ2_charAt_3b067 7 = .ok (.invokestatic 71, 3) := by decide +kernel
theorem dJ2_charAt_3b067_10 : decode cJ2_charAt_3b067 10 = .ok (.ireturn, 1) := by decide +kernel
theorem dJ2_checkIndex_2214a_0 : decode cJ2_checkIndex_2214a 0 = .ok (.iload_n 0, 1) := by decide +kernel
theorem dJ2_checkIndex_2214a_1 : decode cJ2_checkIndex_2214a 1 = .ok (.aload_n 1, 1) := by decide +kernel
theorem dJ2_checkIndex_2214a_2 : decode cJ2_checkIndex_2214a 2 = .ok (.invokestatic 48, 3) := by decide +kernel
theorem dJ2_checkIndex_2214a_5 : decode cJ2_checkIndex_2214a 5 = .ok (.invokestatic 414, 3) := by decide +kernel
theorem dJ2_checkIndex_2214a_8 : decode cJ2_checkIndex_2214a 8 = .ok (.return_, 1) := by decide +kernel
theorem dJ3_checkIndex_8e157_0 : decode cJ3_checkIndex_8e157 0 = .ok (.iload_n 0, 1) := by decide +kernel
theorem dJ3_checkIndex_8e157_1 : decode cJ3_checkIndex_8e157 1 = .ok (.ifCond .lt 8, 3) := by decide +kernel
theorem dJ3_checkIndex_8e157_4 : decode cJ3_checkIndex_8e157 4 = .ok (.iload_n 0, 1) := by decide +kernel
theorem dJ3_checkIndex_8e157_5 : decode cJ3_checkIndex_8e157 5 = .ok (.iload_n 1, 1) := by decide +kernel
theorem dJ3_checkIndex_8e157_6 : decode cJ3_checkIndex_8e157 6 = .ok (.if_icmp .lt 10, 3) := by decide +kernel
theorem dJ3_checkIndex_8e157_9 : decode cJ3_checkIndex_8e157 9 = .ok (.aload_n 2, 1) := by decide +kernel
theorem dJ3_checkIndex_8e157_10 : decode cJ3_checkIndex_8e157 10 = .ok (.iload_n 0, 1) := by decide +kernel
theorem dJ3_checkIndex_8e157_11 : decode cJ3_checkIndex_8e157 11 = .ok (.iload_n 1, 1) := by decide +kernel
theorem dJ3_checkIndex_8e157_12 : decode cJ3_checkIndex_8e157 12 = .ok (.invokestatic 95, 3) := by decide +kernel
theorem dJ3_checkIndex_8e157_15 : decode cJ3_checkIndex_8e157 15 = .ok (.athrow, 1) := by decide +kernel
theorem dJ3_checkIndex_8e157_16 : decode cJ3_checkIndex_8e157 16 = .ok (.iload_n 0, 1) := by decide +kernel
theorem dJ3_checkIndex_8e157_17 : decode cJ3_checkIndex_8e157 17 = .ok (.ireturn, 1) := by decide +kernel
theorem dL_law_0 : decode cL_law 0 = .ok (.new 7, 3) := by decide +kernel
theorem dL_law_3 : decode cL_law 3 = .ok (.dup, 1) := by decide +kernel
theorem dL_law_4 : decode cL_law 4 = .ok (.invokespecial 9, 3) := by decide +kernel
theorem dL_law_7 : decode cL_law 7 = .ok (.astore_n 1, 1) := by decide +kernel
theorem dL_law_8 : decode cL_law 8 = .ok (.new 10, 3) := by decide +kernel
theorem dL_law_11 : decode cL_law 11 = .ok (.dup, 1) := by decide +kernel
theorem dL_law_12 : decode cL_law 12 = .ok (.invokespecial 12, 3) := by decide +kernel
theorem dL_law_15 : decode cL_law 15 = .ok (.astore_n 2, 1) := by decide +kernel
theorem dL_law_16 : decode cL_law 16 = .ok (.iconst 0, 1) := by decide +kernel
theorem dL_law_17 : decode cL_law 17 = .ok (.istore_n 3, 1) := by decide +kernel
theorem dL_law_18 : decode cL_law 18 = .ok (.iload_n 3, 1) := by decide +kernel
theorem dL_law_19 : decode cL_law 19 = .ok (.aload_n 0, 1) := by decide +kernel
theorem dL_law_20 : decode cL_law 20 = .ok (.arraylength, 1) := by decide +kernel
theorem dL_law_21 : decode cL_law 21 = .ok (.bipush 6, 2) := by decide +kernel
theorem dL_law_23 : decode cL_law 23 = .ok (.isub, 1) := by decide +kernel
theorem dL_law_24 : decode cL_law 24 = .ok (.if_icmp .gt 1049, 3) := by decide +kernel
theorem dL_law_27 : decode cL_law 27 = .ok (.aload_n 0, 1) := by decide +kernel
theorem dL_law_28 : decode cL_law 28 = .ok (.iload_n 3, 1) := by decide +kernel
theorem dL_law_29 : decode cL_law 29 = .ok (.iaload, 1) := by decide +kernel
theorem dL_law_30 : decode cL_law 30 = .ok (.bipush 31, 2) := by decide +kernel
theorem dL_law_32 : decode cL_law 32 = .ok (.iand, 1) := by decide +kernel
theorem dL_law_33 : decode cL_law 33 = .ok (.tableswitch 1034 0 22 #[107, 170, 193, 226, 249, 282, 325, 358, 411, 444, 477, 520, 579, 638, 717, 750, 793, 846, 879, 922, 965, 988, 1011], 107) := by decide +kernel
theorem dL_law_140 : decode cL_law 140 = .ok (.aload_n 1, 1) := by decide +kernel
theorem dL_law_141 : decode cL_law 141 = .ok (.aload_n 0, 1) := by decide +kernel
theorem dL_law_142 : decode cL_law 142 = .ok (.iload_n 3, 1) := by decide +kernel
theorem dL_law_143 : decode cL_law 143 = .ok (.iconst 1, 1) := by decide +kernel
theorem dL_law_144 : decode cL_law 144 = .ok (.iadd, 1) := by decide +kernel
theorem dL_law_145 : decode cL_law 145 = .ok (.iaload, 1) := by decide +kernel
theorem dL_law_146 : decode cL_law 146 = .ok (.aload_n 0, 1) := by decide +kernel
theorem dL_law_147 : decode cL_law 147 = .ok (.iload_n 3, 1) := by decide +kernel
theorem dL_law_148 : decode cL_law 148 = .ok (.iconst 2, 1) := by decide +kernel
theorem dL_law_149 : decode cL_law 149 = .ok (.iadd, 1) := by decide +kernel
theorem dL_law_150 : decode cL_law 150 = .ok (.iaload, 1) := by decide +kernel
theorem dL_law_151 : decode cL_law 151 = .ok (.aload_n 0, 1) := by decide +kernel
theorem dL_law_152 : decode cL_law 152 = .ok (.iload_n 3, 1) := by decide +kernel
theorem dL_law_153 : decode cL_law 153 = .ok (.iconst 3, 1) := by decide +kernel
theorem dL_law_154 : decode cL_law 154 = .ok (.iadd, 1) := by decide +kernel
theorem dL_law_155 : decode cL_law 155 = .ok (.iaload, 1) := by decide +kernel
theorem dL_law_156 : decode cL_law 156 = .ok (.aload_n 0, 1) := by decide +kernel
theorem dL_law_157 : decode cL_law 157 = .ok (.iload_n 3, 1) := by decide +kernel
theorem dL_law_158 : decode cL_law 158 = .ok (.iconst 4, 1) := by decide +kernel
theorem dL_law_159 : decode cL_law 159 = .ok (.iadd, 1) := by decide +kernel
theorem dL_law_160 : decode cL_law 160 = .ok (.iaload, 1) := by decide +kernel
theorem dL_law_161 : decode cL_law 161 = .ok (.aload_n 0, 1) := by decide +kernel
theorem dL_law_162 : decode cL_law 162 = .ok (.iload_n 3, 1) := by decide +kernel
theorem dL_law_163 : decode cL_law 163 = .ok (.iconst 5, 1) := by decide +kernel
theorem dL_law_164 : decode cL_law 164 = .ok (.iadd, 1) := by decide +kernel
theorem dL_law_165 : decode cL_law 165 = .ok (.iaload, 1) := by decide +kernel
theorem dL_law_166 : decode cL_law 166 = .ok (.invokevirtual 13, 3) := by decide +kernel
theorem dL_law_169 : decode cL_law 169 = .ok (.aload_n 2, 1) := by decide +kernel
theorem dL_law_170 : decode cL_law 170 = .ok (.aload_n 0, 1) := by decide +kernel
theorem dL_law_171 : decode cL_law 171 = .ok (.iload_n 3, 1) := by decide +kernel
theorem dL_law_172 : decode cL_law 172 = .ok (.iconst 1, 1) := by decide +kernel
theorem dL_law_173 : decode cL_law 173 = .ok (.iadd, 1) := by decide +kernel
theorem dL_law_174 : decode cL_law 174 = .ok (.iaload, 1) := by decide +kernel
theorem dL_law_175 : decode cL_law 175 = .ok (.aload_n 0, 1) := by decide +kernel
theorem dL_law_176 : decode cL_law 176 = .ok (.iload_n 3, 1) := by decide +kernel
theorem dL_law_177 : decode cL_law 177 = .ok (.iconst 2, 1) := by decide +kernel
theorem dL_law_178 : decode cL_law 178 = .ok (.iadd, 1) := by decide +kernel
theorem dL_law_179 : decode cL_law 179 = .ok (.iaload, 1) := by decide +kernel
theorem dL_law_180 : decode cL_law 180 = .ok (.aload_n 0, 1) := by decide +kernel
theorem dL_law_181 : decode cL_law 181 = .ok (.iload_n 3, 1) := by decide +kernel
theorem dL_law_182 : decode cL_law 182 = .ok (.iconst 3, 1) := by decide +kernel
theorem dL_law_183 : decode cL_law 183 = .ok (.iadd, 1) := by decide +kernel
theorem dL_law_184 : decode cL_law 184 = .ok (.iaload, 1) := by decide +kernel
theorem dL_law_185 : decode cL_law 185 = .ok (.aload_n 0, 1) := by decide +kernel
theorem dL_law_186 : decode cL_law 186 = .ok (.iload_n 3, 1) := by decide +kernel
theorem dL_law_187 : decode cL_law 187 = .ok (.iconst 4, 1) := by decide +kernel
theorem dL_law_188 : decode cL_law 188 = .ok (.iadd, 1) := by decide +kernel
theorem dL_law_189 : decode cL_law 189 = .ok (.iaload, 1) := by decide +kernel
theorem dL_law_190 : decode cL_law 190 = .ok (.aload_n 0, 1) := by decide +kernel
theorem dL_law_191 : decode cL_law 191 = .ok (.iload_n 3, 1) := by decide +kernel
theorem dL_law_192 : decode cL_law 192 = .ok (.iconst 5, 1) := by decide +kernel
theorem dL_law_193 : decode cL_law 193 = .ok (.iadd, 1) := by decide +kernel
theorem dL_law_194 : decode cL_law 194 = .ok (.iaload, 1) := by decide +kernel
theorem dL_law_195 : decode cL_law 195 = .ok (.invokevirtual 17, 3) := by decide +kernel
theorem dL_law_198 : decode cL_law 198 = .ok (.if_icmp .eq 869, 3) := by decide +kernel
theorem dL_law_201 : decode cL_law 201 = .ok (.iconst 0, 1) := by decide +kernel
theorem dL_law_202 : decode cL_law 202 = .ok (.ireturn, 1) := by decide +kernel
theorem dL_law_203 : decode cL_law 203 = .ok (.aload_n 1, 1) := by decide +kernel
theorem dL_law_204 : decode cL_law 204 = .ok (.aload_n 0, 1) := by decide +kernel
theorem dL_law_205 : decode cL_law 205 = .ok (.iload_n 3, 1) := by decide +kernel
theorem dL_law_206 : decode cL_law 206 = .ok (.iconst 1, 1) := by decide +kernel
theorem dL_law_207 : decode cL_law 207 = .ok (.iadd, 1) := by decide +kernel
theorem dL_law_208 : decode cL_law 208 = .ok (.iaload, 1) := by decide +kernel
theorem dL_law_209 : decode cL_law 209 = .ok (.invokevirtual 18, 3) := by decide +kernel
theorem dL_law_212 : decode cL_law 212 = .ok (.aload_n 2, 1) := by decide +kernel
theorem dL_law_213 : decode cL_law 213 = .ok (.aload_n 0, 1) := by decide +kernel
theorem dL_law_214 : decode cL_law 214 = .ok (.iload_n 3, 1) := by decide +kernel
theorem dL_law_215 : decode cL_law 215 = .ok (.iconst 1, 1) := by decide +kernel
theorem dL_law_216 : decode cL_law 216 = .ok (.iadd, 1) := by decide +kernel
theorem dL_law_217 : decode cL_law 217 = .ok (.iaload, 1) := by decide +kernel
theorem dL_law_218 : decode cL_law 218 = .ok (.invokevirtual 22, 3) := by decide +kernel
theorem dL_law_221 : decode cL_law 221 = .ok (.if_icmp .eq 846, 3) := by decide +kernel
theorem dL_law_224 : decode cL_law 224 = .ok (.iconst 0, 1) := by decide +kernel
theorem dL_law_225 : decode cL_law 225 = .ok (.ireturn, 1) := by decide +kernel
theorem dL_law_226 : decode cL_law 226 = .ok (.aload_n 1, 1) := by decide +kernel
theorem dL_law_227 : decode cL_law 227 = .ok (.aload_n 0, 1) := by decide +kernel
theorem dL_law_228 : decode cL_law 228 = .ok (.iload_n 3, 1) := by decide +kernel
theorem dL_law_229 : decode cL_law 229 = .ok (.iconst 1, 1) := by decide +kernel
theorem dL_law_230 : decode cL_law 230 = .ok (.iadd, 1) := by decide +kernel
theorem dL_law_231 : decode cL_law 231 = .ok (.iaload, 1) := by decide +kernel
theorem dL_law_232 : decode cL_law 232 = .ok (.aload_n 0, 1) := by decide +kernel
theorem dL_law_233 : decode cL_law 233 = .ok (.iload_n 3, 1) := by decide +kernel
theorem dL_law_234 : decode cL_law 234 = .ok (.iconst 2, 1) := by decide +kernel
theorem dL_law_235 : decode cL_law 235 = .ok (.iadd, 1) := by decide +kernel
theorem dL_law_236 : decode cL_law 236 = .ok (.iaload, 1) := by decide +kernel
theorem dL_law_237 : decode cL_law 237 = .ok (.invokevirtual 23, 3) := by decide +kernel
theorem dL_law_240 : decode cL_law 240 = .ok (.aload_n 2, 1) := by decide +kernel
theorem dL_law_241 : decode cL_law 241 = .ok (.aload_n 0, 1) := by decide +kernel
theorem dL_law_242 : decode cL_law 242 = .ok (.iload_n 3, 1) := by decide +kernel
theorem dL_law_243 : decode cL_law 243 = .ok (.iconst 1, 1) := by decide +kernel
theorem dL_law_244 : decode cL_law 244 = .ok (.iadd, 1) := by decide +kernel
theorem dL_law_245 : decode cL_law 245 = .ok (.iaload, 1) := by decide +kernel
theorem dL_law_246 : decode cL_law 246 = .ok (.aload_n 0, 1) := by decide +kernel
theorem dL_law_247 : decode cL_law 247 = .ok (.iload_n 3, 1) := by decide +kernel
theorem dL_law_248 : decode cL_law 248 = .ok (.iconst 2, 1) := by decide +kernel
theorem dL_law_249 : decode cL_law 249 = .ok (.iadd, 1) := by decide +kernel
theorem dL_law_250 : decode cL_law 250 = .ok (.iaload, 1) := by decide +kernel
theorem dL_law_251 : decode cL_law 251 = .ok (.invokevirtual 27, 3) := by decide +kernel
theorem dL_law_254 : decode cL_law 254 = .ok (.if_icmp .eq 813, 3) := by decide +kernel
theorem dL_law_257 : decode cL_law 257 = .ok (.iconst 0, 1) := by decide +kernel
theorem dL_law_258 : decode cL_law 258 = .ok (.ireturn, 1) := by decide +kernel
theorem dL_law_259 : decode cL_law 259 = .ok (.aload_n 1, 1) := by decide +kernel
theorem dL_law_260 : decode cL_law 260 = .ok (.aload_n 0, 1) := by decide +kernel
theorem dL_law_261 : decode cL_law 261 = .ok (.iload_n 3, 1) := by decide +kernel
theorem dL_law_262 : decode cL_law 262 = .ok (.iconst 1, 1) := by decide +kernel
theorem dL_law_263 : decode cL_law 263 = .ok (.iadd, 1) := by decide +kernel
theorem dL_law_264 : decode cL_law 264 = .ok (.iaload, 1) := by decide +kernel
theorem dL_law_265 : decode cL_law 265 = .ok (.invokevirtual 28, 3) := by decide +kernel
theorem dL_law_268 : decode cL_law 268 = .ok (.aload_n 2, 1) := by decide +kernel
theorem dL_law_269 : decode cL_law 269 = .ok (.aload_n 0, 1) := by decide +kernel
theorem dL_law_270 : decode cL_law 270 = .ok (.iload_n 3, 1) := by decide +kernel
theorem dL_law_271 : decode cL_law 271 = .ok (.iconst 1, 1) := by decide +kernel
theorem dL_law_272 : decode cL_law 272 = .ok (.iadd, 1) := by decide +kernel
theorem dL_law_273 : decode cL_law 273 = .ok (.iaload, 1) := by decide +kernel
theorem dL_law_274 : decode cL_law 274 = .ok (.invokevirtual 31, 3) := by decide +kernel
theorem dL_law_277 : decode cL_law 277 = .ok (.if_icmp .eq 790, 3) := by decide +kernel
theorem dL_law_280 : decode cL_law 280 = .ok (.iconst 0, 1) := by decide +kernel
theorem dL_law_281 : decode cL_law 281 = .ok (.ireturn, 1) := by decide +kernel
theorem dL_law_282 : decode cL_law 282 = .ok (.aload_n 1, 1) := by decide +kernel
theorem dL_law_283 : decode cL_law 283 = .ok (.aload_n 0, 1) := by decide +kernel
theorem dL_law_284 : decode cL_law 284 = .ok (.iload_n 3, 1) := by decide +kernel
theorem dL_law_285 : decode cL_law 285 = .ok (.iconst 1, 1) := by decide +kernel
theorem dL_law_286 : decode cL_law 286 = .ok (.iadd, 1) := by decide +kernel
theorem dL_law_287 : decode cL_law 287 = .ok (.iaload, 1) := by decide +kernel
theorem dL_law_288 : decode cL_law 288 = .ok (.aload_n 0, 1) := by decide +kernel
theorem dL_law_289 : decode cL_law 289 = .ok (.iload_n 3, 1) := by decide +kernel
theorem dL_law_290 : decode cL_law 290 = .ok (.iconst 2, 1) := by decide +kernel
theorem dL_law_291 : decode cL_law 291 = .ok (.iadd, 1) := by decide +kernel
theorem dL_law_292 : decode cL_law 292 = .ok (.iaload, 1) := by decide +kernel
theorem dL_law_293 : decode cL_law 293 = .ok (.invokevirtual 32, 3) := by decide +kernel
theorem dL_law_296 : decode cL_law 296 = .ok (.aload_n 2, 1) := by decide +kernel
theorem dL_law_297 : decode cL_law 297 = .ok (.aload_n 0, 1) := by decide +kernel
theorem dL_law_298 : decode cL_law 298 = .ok (.iload_n 3, 1) := by decide +kernel
theorem dL_law_299 : decode cL_law 299 = .ok (.iconst 1, 1) := by decide +kernel
theorem dL_law_300 : decode cL_law 300 = .ok (.iadd, 1) := by decide +kernel
theorem dL_law_301 : decode cL_law 301 = .ok (.iaload, 1) := by decide +kernel
theorem dL_law_302 : decode cL_law 302 = .ok (.aload_n 0, 1) := by decide +kernel
theorem dL_law_303 : decode cL_law 303 = .ok (.iload_n 3, 1) := by decide +kernel
theorem dL_law_304 : decode cL_law 304 = .ok (.iconst 2, 1) := by decide +kernel
theorem dL_law_305 : decode cL_law 305 = .ok (.iadd, 1) := by decide +kernel
theorem dL_law_306 : decode cL_law 306 = .ok (.iaload, 1) := by decide +kernel
theorem dL_law_307 : decode cL_law 307 = .ok (.invokevirtual 35, 3) := by decide +kernel
theorem dL_law_310 : decode cL_law 310 = .ok (.if_icmp .eq 757, 3) := by decide +kernel
theorem dL_law_313 : decode cL_law 313 = .ok (.iconst 0, 1) := by decide +kernel
theorem dL_law_314 : decode cL_law 314 = .ok (.ireturn, 1) := by decide +kernel
theorem dL_law_315 : decode cL_law 315 = .ok (.aload_n 1, 1) := by decide +kernel
theorem dL_law_316 : decode cL_law 316 = .ok (.aload_n 0, 1) := by decide +kernel
theorem dL_law_317 : decode cL_law 317 = .ok (.iload_n 3, 1) := by decide +kernel
theorem dL_law_318 : decode cL_law 318 = .ok (.iconst 1, 1) := by decide +kernel
theorem dL_law_319 : decode cL_law 319 = .ok (.iadd, 1) := by decide +kernel
theorem dL_law_320 : decode cL_law 320 = .ok (.iaload, 1) := by decide +kernel
theorem dL_law_321 : decode cL_law 321 = .ok (.aload_n 0, 1) := by decide +kernel
theorem dL_law_322 : decode cL_law 322 = .ok (.iload_n 3, 1) := by decide +kernel
theorem dL_law_323 : decode cL_law 323 = .ok (.iconst 2, 1) := by decide +kernel
theorem dL_law_324 : decode cL_law 324 = .ok (.iadd, 1) := by decide +kernel
theorem dL_law_325 : decode cL_law 325 = .ok (.iaload, 1) := by decide +kernel
theorem dL_law_326 : decode cL_law 326 = .ok (.aload_n 0, 1) := by decide +kernel
theorem dL_law_327 : decode cL_law 327 = .ok (.iload_n 3, 1) := by decide +kernel
theorem dL_law_328 : decode cL_law 328 = .ok (.iconst 3, 1) := by decide +kernel
theorem dL_law_329 : decode cL_law 329 = .ok (.iadd, 1) := by decide +kernel
theorem dL_law_330 : decode cL_law 330 = .ok (.iaload, 1) := by decide +kernel
theorem dL_law_331 : decode cL_law 331 = .ok (.invokevirtual 36, 3) := by decide +kernel
theorem dL_law_334 : decode cL_law 334 = .ok (.aload_n 2, 1) := by decide +kernel
theorem dL_law_335 : decode cL_law 335 = .ok (.aload_n 0, 1) := by decide +kernel
theorem dL_law_336 : decode cL_law 336 = .ok (.iload_n 3, 1) := by decide +kernel
theorem dL_law_337 : decode cL_law 337 = .ok (.iconst 1, 1) := by decide +kernel
theorem dL_law_338 : decode cL_law 338 = .ok (.iadd, 1) := by decide +kernel
theorem dL_law_339 : decode cL_law 339 = .ok (.iaload, 1) := by decide +kernel
theorem dL_law_340 : decode cL_law 340 = .ok (.aload_n 0, 1) := by decide +kernel
theorem dL_law_341 : decode cL_law 341 = .ok (.iload_n 3, 1) := by decide +kernel
theorem dL_law_342 : decode cL_law 342 = .ok (.iconst 2, 1) := by decide +kernel
theorem dL_law_343 : decode cL_law 343 = .ok (.iadd, 1) := by decide +kernel
theorem dL_law_344 : decode cL_law 344 = .ok (.iaload, 1) := by decide +kernel
theorem dL_law_345 : decode cL_law 345 = .ok (.aload_n 0, 1) := by decide +kernel
theorem dL_law_346 : decode cL_law 346 = .ok (.iload_n 3, 1) := by decide +kernel
theorem dL_law_347 : decode cL_law 347 = .ok (.iconst 3, 1) := by decide +kernel
theorem dL_law_348 : decode cL_law 348 = .ok (.iadd, 1) := by decide +kernel
theorem dL_law_349 : decode cL_law 349 = .ok (.iaload, 1) := by decide +kernel
theorem dL_law_350 : decode cL_law 350 = .ok (.invokevirtual 40, 3) := by decide +kernel
theorem dL_law_353 : decode cL_law 353 = .ok (.if_icmp .eq 714, 3) := by decide +kernel
theorem dL_law_356 : decode cL_law 356 = .ok (.iconst 0, 1) := by decide +kernel
theorem dL_law_357 : decode cL_law 357 = .ok (.ireturn, 1) := by decide +kernel
theorem dL_law_358 : decode cL_law 358 = .ok (.aload_n 1, 1) := by decide +kernel
theorem dL_law_359 : decode cL_law 359 = .ok (.aload_n 0, 1) := by decide +kernel
theorem dL_law_360 : decode cL_law 360 = .ok (.iload_n 3, 1) := by decide +kernel
theorem dL_law_361 : decode cL_law 361 = .ok (.iconst 1, 1) := by decide +kernel
theorem dL_law_362 : decode cL_law 362 = .ok (.iadd, 1) := by decide +kernel
theorem dL_law_363 : decode cL_law 363 = .ok (.iaload, 1) := by decide +kernel
theorem dL_law_364 : decode cL_law 364 = .ok (.aload_n 0, 1) := by decide +kernel
theorem dL_law_365 : decode cL_law 365 = .ok (.iload_n 3, 1) := by decide +kernel
theorem dL_law_366 : decode cL_law 366 = .ok (.iconst 2, 1) := by decide +kernel
theorem dL_law_367 : decode cL_law 367 = .ok (.iadd, 1) := by decide +kernel
theorem dL_law_368 : decode cL_law 368 = .ok (.iaload, 1) := by decide +kernel
theorem dL_law_369 : decode cL_law 369 = .ok (.invokevirtual 41, 3) := by decide +kernel
theorem dL_law_372 : decode cL_law 372 = .ok (.aload_n 2, 1) := by decide +kernel
theorem dL_law_373 : decode cL_law 373 = .ok (.aload_n 0, 1) := by decide +kernel
theorem dL_law_374 : decode cL_law 374 = .ok (.iload_n 3, 1) := by decide +kernel
theorem dL_law_375 : decode cL_law 375 = .ok (.iconst 1, 1) := by decide +kernel
theorem dL_law_376 : decode cL_law 376 = .ok (.iadd, 1) := by decide +kernel
theorem dL_law_377 : decode cL_law 377 = .ok (.iaload, 1) := by decide +kernel
theorem dL_law_378 : decode cL_law 378 = .ok (.aload_n 0, 1) := by decide +kernel
theorem dL_law_379 : decode cL_law 379 = .ok (.iload_n 3, 1) := by decide +kernel
theorem dL_law_380 : decode cL_law 380 = .ok (.iconst 2, 1) := by decide +kernel
theorem dL_law_381 : decode cL_law 381 = .ok (.iadd, 1) := by decide +kernel
theorem dL_law_382 : decode cL_law 382 = .ok (.iaload, 1) := by decide +kernel
theorem dL_law_383 : decode cL_law 383 = .ok (.invokevirtual 44, 3) := by decide +kernel
theorem dL_law_386 : decode cL_law 386 = .ok (.if_icmp .eq 681, 3) := by decide +kernel
theorem dL_law_389 : decode cL_law 389 = .ok (.iconst 0, 1) := by decide +kernel
theorem dL_law_390 : decode cL_law 390 = .ok (.ireturn, 1) := by decide +kernel
theorem dL_law_391 : decode cL_law 391 = .ok (.aload_n 1, 1) := by decide +kernel
theorem dL_law_392 : decode cL_law 392 = .ok (.aload_n 0, 1) := by decide +kernel
theorem dL_law_393 : decode cL_law 393 = .ok (.iload_n 3, 1) := by decide +kernel
theorem dL_law_394 : decode cL_law 394 = .ok (.iconst 1, 1) := by decide +kernel
theorem dL_law_395 : decode cL_law 395 = .ok (.iadd, 1) := by decide +kernel
theorem dL_law_396 : decode cL_law 396 = .ok (.iaload, 1) := by decide +kernel
theorem dL_law_397 : decode cL_law 397 = .ok (.aload_n 0, 1) := by decide +kernel
theorem dL_law_398 : decode cL_law 398 = .ok (.iload_n 3, 1) := by decide +kernel
theorem dL_law_399 : decode cL_law 399 = .ok (.iconst 2, 1) := by decide +kernel
theorem dL_law_400 : decode cL_law 400 = .ok (.iadd, 1) := by decide +kernel
theorem dL_law_401 : decode cL_law 401 = .ok (.iaload, 1) := by decide +kernel
theorem dL_law_402 : decode cL_law 402 = .ok (.aload_n 0, 1) := by decide +kernel
theorem dL_law_403 : decode cL_law 403 = .ok (.iload_n 3, 1) := by decide +kernel
theorem dL_law_404 : decode cL_law 404 = .ok (.iconst 3, 1) := by decide +kernel
theorem dL_law_405 : decode cL_law 405 = .ok (.iadd, 1) := by decide +kernel
theorem dL_law_406 : decode cL_law 406 = .ok (.iaload, 1) := by decide +kernel
theorem dL_law_407 : decode cL_law 407 = .ok (.aload_n 0, 1) := by decide +kernel
theorem dL_law_408 : decode cL_law 408 = .ok (.iload_n 3, 1) := by decide +kernel
theorem dL_law_409 : decode cL_law 409 = .ok (.iconst 4, 1) := by decide +kernel
theorem dL_law_410 : decode cL_law 410 = .ok (.iadd, 1) := by decide +kernel
theorem dL_law_411 : decode cL_law 411 = .ok (.iaload, 1) := by decide +kernel
theorem dL_law_412 : decode cL_law 412 = .ok (.invokevirtual 45, 3) := by decide +kernel
theorem dL_law_415 : decode cL_law 415 = .ok (.aload_n 2, 1) := by decide +kernel
theorem dL_law_416 : decode cL_law 416 = .ok (.aload_n 0, 1) := by decide +kernel
theorem dL_law_417 : decode cL_law 417 = .ok (.iload_n 3, 1) := by decide +kernel
theorem dL_law_418 : decode cL_law 418 = .ok (.iconst 1, 1) := by decide +kernel
theorem dL_law_419 : decode cL_law 419 = .ok (.iadd, 1) := by decide +kernel
theorem dL_law_420 : decode cL_law 420 = .ok (.iaload, 1) := by decide +kernel
theorem dL_law_421 : decode cL_law 421 = .ok (.aload_n 0, 1) := by decide +kernel
theorem dL_law_422 : decode cL_law 422 = .ok (.iload_n 3, 1) := by decide +kernel
theorem dL_law_423 : decode cL_law 423 = .ok (.iconst 2, 1) := by decide +kernel
theorem dL_law_424 : decode cL_law 424 = .ok (.iadd, 1) := by decide +kernel
theorem dL_law_425 : decode cL_law 425 = .ok (.iaload, 1) := by decide +kernel
theorem dL_law_426 : decode cL_law 426 = .ok (.aload_n 0, 1) := by decide +kernel
theorem dL_law_427 : decode cL_law 427 = .ok (.iload_n 3, 1) := by decide +kernel
theorem dL_law_428 : decode cL_law 428 = .ok (.iconst 3, 1) := by decide +kernel
theorem dL_law_429 : decode cL_law 429 = .ok (.iadd, 1) := by decide +kernel
theorem dL_law_430 : decode cL_law 430 = .ok (.iaload, 1) := by decide +kernel
theorem dL_law_431 : decode cL_law 431 = .ok (.aload_n 0, 1) := by decide +kernel
theorem dL_law_432 : decode cL_law 432 = .ok (.iload_n 3, 1) := by decide +kernel
theorem dL_law_433 : decode cL_law 433 = .ok (.iconst 4, 1) := by decide +kernel
theorem dL_law_434 : decode cL_law 434 = .ok (.iadd, 1) := by decide +kernel
theorem dL_law_435 : decode cL_law 435 = .ok (.iaload, 1) := by decide +kernel
theorem dL_law_436 : decode cL_law 436 = .ok (.invokevirtual 49, 3) := by decide +kernel
theorem dL_law_439 : decode cL_law 439 = .ok (.if_icmp .eq 628, 3) := by decide +kernel
theorem dL_law_442 : decode cL_law 442 = .ok (.iconst 0, 1) := by decide +kernel
theorem dL_law_443 : decode cL_law 443 = .ok (.ireturn, 1) := by decide +kernel
theorem dL_law_444 : decode cL_law 444 = .ok (.aload_n 1, 1) := by decide +kernel
theorem dL_law_445 : decode cL_law 445 = .ok (.aload_n 0, 1) := by decide +kernel
theorem dL_law_446 : decode cL_law 446 = .ok (.iload_n 3, 1) := by decide +kernel
theorem dL_law_447 : decode cL_law 447 = .ok (.iconst 1, 1) := by decide +kernel
theorem dL_law_448 : decode cL_law 448 = .ok (.iadd, 1) := by decide +kernel
theorem dL_law_449 : decode cL_law 449 = .ok (.iaload, 1) := by decide +kernel
theorem dL_law_450 : decode cL_law 450 = .ok (.aload_n 0, 1) := by decide +kernel
theorem dL_law_451 : decode cL_law 451 = .ok (.iload_n 3, 1) := by decide +kernel
theorem dL_law_452 : decode cL_law 452 = .ok (.iconst 2, 1) := by decide +kernel
theorem dL_law_453 : decode cL_law 453 = .ok (.iadd, 1) := by decide +kernel
theorem dL_law_454 : decode cL_law 454 = .ok (.iaload, 1) := by decide +kernel
theorem dL_law_455 : decode cL_law 455 = .ok (.invokevirtual 50, 3) := by decide +kernel
theorem dL_law_458 : decode cL_law 458 = .ok (.aload_n 2, 1) := by decide +kernel
theorem dL_law_459 : decode cL_law 459 = .ok (.aload_n 0, 1) := by decide +kernel
theorem dL_law_460 : decode cL_law 460 = .ok (.iload_n 3, 1) := by decide +kernel
theorem dL_law_461 : decode cL_law 461 = .ok (.iconst 1, 1) := by decide +kernel
theorem dL_law_462 : decode cL_law 462 = .ok (.iadd, 1) := by decide +kernel
theorem dL_law_463 : decode cL_law 463 = .ok (.iaload, 1) := by decide +kernel
theorem dL_law_464 : decode cL_law 464 = .ok (.aload_n 0, 1) := by decide +kernel
theorem dL_law_465 : decode cL_law 465 = .ok (.iload_n 3, 1) := by decide +kernel
theorem dL_law_466 : decode cL_law 466 = .ok (.iconst 2, 1) := by decide +kernel
theorem dL_law_467 : decode cL_law 467 = .ok (.iadd, 1) := by decide +kernel
theorem dL_law_468 : decode cL_law 468 = .ok (.iaload, 1) := by decide +kernel
theorem dL_law_469 : decode cL_law 469 = .ok (.invokevirtual 53, 3) := by decide +kernel
theorem dL_law_472 : decode cL_law 472 = .ok (.if_icmp .eq 595, 3) := by decide +kernel
theorem dL_law_475 : decode cL_law 475 = .ok (.iconst 0, 1) := by decide +kernel
theorem dL_law_476 : decode cL_law 476 = .ok (.ireturn, 1) := by decide +kernel
theorem dL_law_477 : decode cL_law 477 = .ok (.aload_n 1, 1) := by decide +kernel
theorem dL_law_478 : decode cL_law 478 = .ok (.aload_n 0, 1) := by decide +kernel
theorem dL_law_479 : decode cL_law 479 = .ok (.iload_n 3, 1) := by decide +kernel
theorem dL_law_480 : decode cL_law 480 = .ok (.iconst 1, 1) := by decide +kernel
theorem dL_law_481 : decode cL_law 481 = .ok (.iadd, 1) := by decide +kernel
theorem dL_law_482 : decode cL_law 482 = .ok (.iaload, 1) := by decide +kernel
theorem dL_law_483 : decode cL_law 483 = .ok (.aload_n 0, 1) := by decide +kernel
theorem dL_law_484 : decode cL_law 484 = .ok (.iload_n 3, 1) := by decide +kernel
theorem dL_law_485 : decode cL_law 485 = .ok (.iconst 2, 1) := by decide +kernel
theorem dL_law_486 : decode cL_law 486 = .ok (.iadd, 1) := by decide +kernel
theorem dL_law_487 : decode cL_law 487 = .ok (.iaload, 1) := by decide +kernel
theorem dL_law_488 : decode cL_law 488 = .ok (.invokevirtual 54, 3) := by decide +kernel
theorem dL_law_491 : decode cL_law 491 = .ok (.aload_n 2, 1) := by decide +kernel
theorem dL_law_492 : decode cL_law 492 = .ok (.aload_n 0, 1) := by decide +kernel
theorem dL_law_493 : decode cL_law 493 = .ok (.iload_n 3, 1) := by decide +kernel
theorem dL_law_494 : decode cL_law 494 = .ok (.iconst 1, 1) := by decide +kernel
theorem dL_law_495 : decode cL_law 495 = .ok (.iadd, 1) := by decide +kernel
theorem dL_law_496 : decode cL_law 496 = .ok (.iaload, 1) := by decide +kernel
theorem dL_law_497 : decode cL_law 497 = .ok (.aload_n 0, 1) := by decide +kernel
theorem dL_law_498 : decode cL_law 498 = .ok (.iload_n 3, 1) := by decide +kernel
theorem dL_law_499 : decode cL_law 499 = .ok (.iconst 2, 1) := by decide +kernel
theorem dL_law_500 : decode cL_law 500 = .ok (.iadd, 1) := by decide +kernel
theorem dL_law_501 : decode cL_law 501 = .ok (.iaload, 1) := by decide +kernel
theorem dL_law_502 : decode cL_law 502 = .ok (.invokevirtual 57, 3) := by decide +kernel
theorem dL_law_505 : decode cL_law 505 = .ok (.if_icmp .eq 562, 3) := by decide +kernel
theorem dL_law_508 : decode cL_law 508 = .ok (.iconst 0, 1) := by decide +kernel
theorem dL_law_509 : decode cL_law 509 = .ok (.ireturn, 1) := by decide +kernel
theorem dL_law_510 : decode cL_law 510 = .ok (.aload_n 1, 1) := by decide +kernel
theorem dL_law_511 : decode cL_law 511 = .ok (.aload_n 0, 1) := by decide +kernel
theorem dL_law_512 : decode cL_law 512 = .ok (.iload_n 3, 1) := by decide +kernel
theorem dL_law_513 : decode cL_law 513 = .ok (.iconst 1, 1) := by decide +kernel
theorem dL_law_514 : decode cL_law 514 = .ok (.iadd, 1) := by decide +kernel
theorem dL_law_515 : decode cL_law 515 = .ok (.iaload, 1) := by decide +kernel
theorem dL_law_516 : decode cL_law 516 = .ok (.aload_n 0, 1) := by decide +kernel
theorem dL_law_517 : decode cL_law 517 = .ok (.iload_n 3, 1) := by decide +kernel
theorem dL_law_518 : decode cL_law 518 = .ok (.iconst 2, 1) := by decide +kernel
theorem dL_law_519 : decode cL_law 519 = .ok (.iadd, 1) := by decide +kernel
theorem dL_law_520 : decode cL_law 520 = .ok (.iaload, 1) := by decide +kernel
theorem dL_law_521 : decode cL_law 521 = .ok (.aload_n 0, 1) := by decide +kernel
theorem dL_law_522 : decode cL_law 522 = .ok (.iload_n 3, 1) := by decide +kernel
theorem dL_law_523 : decode cL_law 523 = .ok (.iconst 3, 1) := by decide +kernel
theorem dL_law_524 : decode cL_law 524 = .ok (.iadd, 1) := by decide +kernel
theorem dL_law_525 : decode cL_law 525 = .ok (.iaload, 1) := by decide +kernel
theorem dL_law_526 : decode cL_law 526 = .ok (.invokevirtual 58, 3) := by decide +kernel
theorem dL_law_529 : decode cL_law 529 = .ok (.aload_n 2, 1) := by decide +kernel
theorem dL_law_530 : decode cL_law 530 = .ok (.aload_n 0, 1) := by decide +kernel
theorem dL_law_531 : decode cL_law 531 = .ok (.iload_n 3, 1) := by decide +kernel
theorem dL_law_532 : decode cL_law 532 = .ok (.iconst 1, 1) := by decide +kernel
theorem dL_law_533 : decode cL_law 533 = .ok (.iadd, 1) := by decide +kernel
theorem dL_law_534 : decode cL_law 534 = .ok (.iaload, 1) := by decide +kernel
theorem dL_law_535 : decode cL_law 535 = .ok (.aload_n 0, 1) := by decide +kernel
theorem dL_law_536 : decode cL_law 536 = .ok (.iload_n 3, 1) := by decide +kernel
theorem dL_law_537 : decode cL_law 537 = .ok (.iconst 2, 1) := by decide +kernel
theorem dL_law_538 : decode cL_law 538 = .ok (.iadd, 1) := by decide +kernel
theorem dL_law_539 : decode cL_law 539 = .ok (.iaload, 1) := by decide +kernel
theorem dL_law_540 : decode cL_law 540 = .ok (.aload_n 0, 1) := by decide +kernel
theorem dL_law_541 : decode cL_law 541 = .ok (.iload_n 3, 1) := by decide +kernel
theorem dL_law_542 : decode cL_law 542 = .ok (.iconst 3, 1) := by decide +kernel
theorem dL_law_543 : decode cL_law 543 = .ok (.iadd, 1) := by decide +kernel
theorem dL_law_544 : decode cL_law 544 = .ok (.iaload, 1) := by decide +kernel
theorem dL_law_545 : decode cL_law 545 = .ok (.invokevirtual 61, 3) := by decide +kernel
theorem dL_law_548 : decode cL_law 548 = .ok (.if_icmp .eq 519, 3) := by decide +kernel
theorem dL_law_551 : decode cL_law 551 = .ok (.iconst 0, 1) := by decide +kernel
theorem dL_law_552 : decode cL_law 552 = .ok (.ireturn, 1) := by decide +kernel
theorem dL_law_553 : decode cL_law 553 = .ok (.aload_n 1, 1) := by decide +kernel
theorem dL_law_554 : decode cL_law 554 = .ok (.aload_n 0, 1) := by decide +kernel
theorem dL_law_555 : decode cL_law 555 = .ok (.iload_n 3, 1) := by decide +kernel
theorem dL_law_556 : decode cL_law 556 = .ok (.iconst 1, 1) := by decide +kernel
theorem dL_law_557 : decode cL_law 557 = .ok (.iadd, 1) := by decide +kernel
theorem dL_law_558 : decode cL_law 558 = .ok (.iaload, 1) := by decide +kernel
theorem dL_law_559 : decode cL_law 559 = .ok (.aload_n 0, 1) := by decide +kernel
theorem dL_law_560 : decode cL_law 560 = .ok (.iload_n 3, 1) := by decide +kernel
theorem dL_law_561 : decode cL_law 561 = .ok (.iconst 2, 1) := by decide +kernel
theorem dL_law_562 : decode cL_law 562 = .ok (.iadd, 1) := by decide +kernel
theorem dL_law_563 : decode cL_law 563 = .ok (.iaload, 1) := by decide +kernel
theorem dL_law_564 : decode cL_law 564 = .ok (.aload_n 0, 1) := by decide +kernel
theorem dL_law_565 : decode cL_law 565 = .ok (.iload_n 3, 1) := by decide +kernel
theorem dL_law_566 : decode cL_law 566 = .ok (.iconst 3, 1) := by decide +kernel
theorem dL_law_567 : decode cL_law 567 = .ok (.iadd, 1) := by decide +kernel
theorem dL_law_568 : decode cL_law 568 = .ok (.iaload, 1) := by decide +kernel
theorem dL_law_569 : decode cL_law 569 = .ok (.ifCond .eq 7, 3) := by decide +kernel
theorem dL_law_572 : decode cL_law 572 = .ok (.iconst 1, 1) := by decide +kernel
theorem dL_law_573 : decode cL_law 573 = .ok (.goto 4, 3) := by decide +kernel
theorem dL_law_576 : decode cL_law 576 = .ok (.iconst 0, 1) := by decide +kernel
theorem dL_law_577 : decode cL_law 577 = .ok (.invokevirtual 62, 3) := by decide +kernel
theorem dL_law_580 : decode cL_law 580 = .ok (.aload_n 2, 1) := by decide +kernel
theorem dL_law_581 : decode cL_law 581 = .ok (.aload_n 0, 1) := by decide +kernel
theorem dL_law_582 : decode cL_law 582 = .ok (.iload_n 3, 1) := by decide +kernel
theorem dL_law_583 : decode cL_law 583 = .ok (.iconst 1, 1) := by decide +kernel
theorem dL_law_584 : decode cL_law 584 = .ok (.iadd, 1) := by decide +kernel
theorem dL_law_585 : decode cL_law 585 = .ok (.iaload, 1) := by decide +kernel
theorem dL_law_586 : decode cL_law 586 = .ok (.aload_n 0, 1) := by decide +kernel
theorem dL_law_587 : decode cL_law 587 = .ok (.iload_n 3, 1) := by decide +kernel
theorem dL_law_588 : decode cL_law 588 = .ok (.iconst 2, 1) := by decide +kernel
theorem dL_law_589 : decode cL_law 589 = .ok (.iadd, 1) := by decide +kernel
theorem dL_law_590 : decode cL_law 590 = .ok (.iaload, 1) := by decide +kernel
theorem dL_law_591 : decode cL_law 591 = .ok (.aload_n 0, 1) := by decide +kernel
theorem dL_law_592 : decode cL_law 592 = .ok (.iload_n 3, 1) := by decide +kernel
theorem dL_law_593 : decode cL_law 593 = .ok (.iconst 3, 1) := by decide +kernel
theorem dL_law_594 : decode cL_law 594 = .ok (.iadd, 1) := by decide +kernel
theorem dL_law_595 : decode cL_law 595 = .ok (.iaload, 1) := by decide +kernel
theorem dL_law_596 : decode cL_law 596 = .ok (.ifCond .eq 7, 3) := by decide +kernel
theorem dL_law_599 : decode cL_law 599 = .ok (.iconst 1, 1) := by decide +kernel
theorem dL_law_600 : decode cL_law 600 = .ok (.goto 4, 3) := by decide +kernel
theorem dL_law_603 : decode cL_law 603 = .ok (.iconst 0, 1) := by decide +kernel
theorem dL_law_604 : decode cL_law 604 = .ok (.invokevirtual 66, 3) := by decide +kernel
theorem dL_law_607 : decode cL_law 607 = .ok (.if_icmp .eq 460, 3) := by decide +kernel
theorem dL_law_610 : decode cL_law 610 = .ok (.iconst 0, 1) := by decide +kernel
theorem dL_law_611 : decode cL_law 611 = .ok (.ireturn, 1) := by decide +kernel
theorem dL_law_612 : decode cL_law 612 = .ok (.aload_n 1, 1) := by decide +kernel
theorem dL_law_613 : decode cL_law 613 = .ok (.aload_n 0, 1) := by decide +kernel
theorem dL_law_614 : decode cL_law 614 = .ok (.iload_n 3, 1) := by decide +kernel
theorem dL_law_615 : decode cL_law 615 = .ok (.iconst 1, 1) := by decide +kernel
theorem dL_law_616 : decode cL_law 616 = .ok (.iadd, 1) := by decide +kernel
theorem dL_law_617 : decode cL_law 617 = .ok (.iaload, 1) := by decide +kernel
theorem dL_law_618 : decode cL_law 618 = .ok (.aload_n 0, 1) := by decide +kernel
theorem dL_law_619 : decode cL_law 619 = .ok (.iload_n 3, 1) := by decide +kernel
theorem dL_law_620 : decode cL_law 620 = .ok (.iconst 2, 1) := by decide +kernel
theorem dL_law_621 : decode cL_law 621 = .ok (.iadd, 1) := by decide +kernel
theorem dL_law_622 : decode cL_law 622 = .ok (.iaload, 1) := by decide +kernel
theorem dL_law_623 : decode cL_law 623 = .ok (.aload_n 0, 1) := by decide +kernel
theorem dL_law_624 : decode cL_law 624 = .ok (.iload_n 3, 1) := by decide +kernel
theorem dL_law_625 : decode cL_law 625 = .ok (.iconst 3, 1) := by decide +kernel
theorem dL_law_626 : decode cL_law 626 = .ok (.iadd, 1) := by decide +kernel
theorem dL_law_627 : decode cL_law 627 = .ok (.iaload, 1) := by decide +kernel
theorem dL_law_628 : decode cL_law 628 = .ok (.ifCond .eq 7, 3) := by decide +kernel
theorem dL_law_631 : decode cL_law 631 = .ok (.iconst 1, 1) := by decide +kernel
theorem dL_law_632 : decode cL_law 632 = .ok (.goto 4, 3) := by decide +kernel
theorem dL_law_635 : decode cL_law 635 = .ok (.iconst 0, 1) := by decide +kernel
theorem dL_law_636 : decode cL_law 636 = .ok (.invokevirtual 67, 3) := by decide +kernel
theorem dL_law_639 : decode cL_law 639 = .ok (.aload_n 2, 1) := by decide +kernel
theorem dL_law_640 : decode cL_law 640 = .ok (.aload_n 0, 1) := by decide +kernel
theorem dL_law_641 : decode cL_law 641 = .ok (.iload_n 3, 1) := by decide +kernel
theorem dL_law_642 : decode cL_law 642 = .ok (.iconst 1, 1) := by decide +kernel
theorem dL_law_643 : decode cL_law 643 = .ok (.iadd, 1) := by decide +kernel
theorem dL_law_644 : decode cL_law 644 = .ok (.iaload, 1) := by decide +kernel
theorem dL_law_645 : decode cL_law 645 = .ok (.aload_n 0, 1) := by decide +kernel
theorem dL_law_646 : decode cL_law 646 = .ok (.iload_n 3, 1) := by decide +kernel
theorem dL_law_647 : decode cL_law 647 = .ok (.iconst 2, 1) := by decide +kernel
theorem dL_law_648 : decode cL_law 648 = .ok (.iadd, 1) := by decide +kernel
theorem dL_law_649 : decode cL_law 649 = .ok (.iaload, 1) := by decide +kernel
theorem dL_law_650 : decode cL_law 650 = .ok (.aload_n 0, 1) := by decide +kernel
theorem dL_law_651 : decode cL_law 651 = .ok (.iload_n 3, 1) := by decide +kernel
theorem dL_law_652 : decode cL_law 652 = .ok (.iconst 3, 1) := by decide +kernel
theorem dL_law_653 : decode cL_law 653 = .ok (.iadd, 1) := by decide +kernel
theorem dL_law_654 : decode cL_law 654 = .ok (.iaload, 1) := by decide +kernel
theorem dL_law_655 : decode cL_law 655 = .ok (.ifCond .eq 7, 3) := by decide +kernel
theorem dL_law_658 : decode cL_law 658 = .ok (.iconst 1, 1) := by decide +kernel
theorem dL_law_659 : decode cL_law 659 = .ok (.goto 4, 3) := by decide +kernel
theorem dL_law_662 : decode cL_law 662 = .ok (.iconst 0, 1) := by decide +kernel
theorem dL_law_663 : decode cL_law 663 = .ok (.invokevirtual 70, 3) := by decide +kernel
theorem dL_law_666 : decode cL_law 666 = .ok (.if_icmp .eq 401, 3) := by decide +kernel
theorem dL_law_669 : decode cL_law 669 = .ok (.iconst 0, 1) := by decide +kernel
theorem dL_law_670 : decode cL_law 670 = .ok (.ireturn, 1) := by decide +kernel
theorem dL_law_671 : decode cL_law 671 = .ok (.aload_n 1, 1) := by decide +kernel
theorem dL_law_672 : decode cL_law 672 = .ok (.aload_n 0, 1) := by decide +kernel
theorem dL_law_673 : decode cL_law 673 = .ok (.iload_n 3, 1) := by decide +kernel
theorem dL_law_674 : decode cL_law 674 = .ok (.iconst 1, 1) := by decide +kernel
theorem dL_law_675 : decode cL_law 675 = .ok (.iadd, 1) := by decide +kernel
theorem dL_law_676 : decode cL_law 676 = .ok (.iaload, 1) := by decide +kernel
theorem dL_law_677 : decode cL_law 677 = .ok (.aload_n 0, 1) := by decide +kernel
theorem dL_law_678 : decode cL_law 678 = .ok (.iload_n 3, 1) := by decide +kernel
theorem dL_law_679 : decode cL_law 679 = .ok (.iconst 2, 1) := by decide +kernel
theorem dL_law_680 : decode cL_law 680 = .ok (.iadd, 1) := by decide +kernel
theorem dL_law_681 : decode cL_law 681 = .ok (.iaload, 1) := by decide +kernel
theorem dL_law_682 : decode cL_law 682 = .ok (.aload_n 0, 1) := by decide +kernel
theorem dL_law_683 : decode cL_law 683 = .ok (.iload_n 3, 1) := by decide +kernel
theorem dL_law_684 : decode cL_law 684 = .ok (.iconst 3, 1) := by decide +kernel
theorem dL_law_685 : decode cL_law 685 = .ok (.iadd, 1) := by decide +kernel
theorem dL_law_686 : decode cL_law 686 = .ok (.iaload, 1) := by decide +kernel
theorem dL_law_687 : decode cL_law 687 = .ok (.aload_n 0, 1) := by decide +kernel
theorem dL_law_688 : decode cL_law 688 = .ok (.iload_n 3, 1) := by decide +kernel
theorem dL_law_689 : decode cL_law 689 = .ok (.iconst 4, 1) := by decide +kernel
theorem dL_law_690 : decode cL_law 690 = .ok (.iadd, 1) := by decide +kernel
theorem dL_law_691 : decode cL_law 691 = .ok (.iaload, 1) := by decide +kernel
theorem dL_law_692 : decode cL_law 692 = .ok (.aload_n 0, 1) := by decide +kernel
theorem dL_law_693 : decode cL_law 693 = .ok (.iload_n 3, 1) := by decide +kernel
theorem dL_law_694 : decode cL_law 694 = .ok (.iconst 5, 1) := by decide +kernel
theorem dL_law_695 : decode cL_law 695 = .ok (.iadd, 1) := by decide +kernel
theorem dL_law_696 : decode cL_law 696 = .ok (.iaload, 1) := by decide +kernel
theorem dL_law_697 : decode cL_law 697 = .ok (.ifCond .eq 7, 3) := by decide +kernel
theorem dL_law_700 : decode cL_law 700 = .ok (.iconst 1, 1) := by decide +kernel
theorem dL_law_701 : decode cL_law 701 = .ok (.goto 4, 3) := by decide +kernel
theorem dL_law_704 : decode cL_law 704 = .ok (.iconst 0, 1) := by decide +kernel
theorem dL_law_705 : decode cL_law 705 = .ok (.invokevirtual 71, 3) := by decide +kernel
theorem dL_law_708 : decode cL_law 708 = .ok (.aload_n 2, 1) := by decide +kernel
theorem dL_law_709 : decode cL_law 709 = .ok (.aload_n 0, 1) := by decide +kernel
theorem dL_law_710 : decode cL_law 710 = .ok (.iload_n 3, 1) := by decide +kernel
theorem dL_law_711 : decode cL_law 711 = .ok (.iconst 1, 1) := by decide +kernel
theorem dL_law_712 : decode cL_law 712 = .ok (.iadd, 1) := by decide +kernel
theorem dL_law_713 : decode cL_law 713 = .ok (.iaload, 1) := by decide +kernel
theorem dL_law_714 : decode cL_law 714 = .ok (.aload_n 0, 1) := by decide +kernel
theorem dL_law_715 : decode cL_law 715 = .ok (.iload_n 3, 1) := by decide +kernel
theorem dL_law_716 : decode cL_law 716 = .ok (.iconst 2, 1) := by decide +kernel
theorem dL_law_717 : decode cL_law 717 = .ok (.iadd, 1) := by decide +kernel
theorem dL_law_718 : decode cL_law 718 = .ok (.iaload, 1) := by decide +kernel
theorem dL_law_719 : decode cL_law 719 = .ok (.aload_n 0, 1) := by decide +kernel
theorem dL_law_720 : decode cL_law 720 = .ok (.iload_n 3, 1) := by decide +kernel
theorem dL_law_721 : decode cL_law 721 = .ok (.iconst 3, 1) := by decide +kernel
theorem dL_law_722 : decode cL_law 722 = .ok (.iadd, 1) := by decide +kernel
theorem dL_law_723 : decode cL_law 723 = .ok (.iaload, 1) := by decide +kernel
theorem dL_law_724 : decode cL_law 724 = .ok (.aload_n 0, 1) := by decide +kernel
theorem dL_law_725 : decode cL_law 725 = .ok (.iload_n 3, 1) := by decide +kernel
theorem dL_law_726 : decode cL_law 726 = .ok (.iconst 4, 1) := by decide +kernel
theorem dL_law_727 : decode cL_law 727 = .ok (.iadd, 1) := by decide +kernel
theorem dL_law_728 : decode cL_law 728 = .ok (.iaload, 1) := by decide +kernel
theorem dL_law_729 : decode cL_law 729 = .ok (.aload_n 0, 1) := by decide +kernel
theorem dL_law_730 : decode cL_law 730 = .ok (.iload_n 3, 1) := by decide +kernel
theorem dL_law_731 : decode cL_law 731 = .ok (.iconst 5, 1) := by decide +kernel
theorem dL_law_732 : decode cL_law 732 = .ok (.iadd, 1) := by decide +kernel
theorem dL_law_733 : decode cL_law 733 = .ok (.iaload, 1) := by decide +kernel
theorem dL_law_734 : decode cL_law 734 = .ok (.ifCond .eq 7, 3) := by decide +kernel
theorem dL_law_737 : decode cL_law 737 = .ok (.iconst 1, 1) := by decide +kernel
theorem dL_law_738 : decode cL_law 738 = .ok (.goto 4, 3) := by decide +kernel
theorem dL_law_741 : decode cL_law 741 = .ok (.iconst 0, 1) := by decide +kernel
theorem dL_law_742 : decode cL_law 742 = .ok (.invokevirtual 75, 3) := by decide +kernel
theorem dL_law_745 : decode cL_law 745 = .ok (.if_icmp .eq 322, 3) := by decide +kernel
theorem dL_law_748 : decode cL_law 748 = .ok (.iconst 0, 1) := by decide +kernel
theorem dL_law_749 : decode cL_law 749 = .ok (.ireturn, 1) := by decide +kernel
theorem dL_law_750 : decode cL_law 750 = .ok (.aload_n 1, 1) := by decide +kernel
theorem dL_law_751 : decode cL_law 751 = .ok (.aload_n 0, 1) := by decide +kernel
theorem dL_law_752 : decode cL_law 752 = .ok (.iload_n 3, 1) := by decide +kernel
theorem dL_law_753 : decode cL_law 753 = .ok (.iconst 1, 1) := by decide +kernel
theorem dL_law_754 : decode cL_law 754 = .ok (.iadd, 1) := by decide +kernel
theorem dL_law_755 : decode cL_law 755 = .ok (.iaload, 1) := by decide +kernel
theorem dL_law_756 : decode cL_law 756 = .ok (.aload_n 0, 1) := by decide +kernel
theorem dL_law_757 : decode cL_law 757 = .ok (.iload_n 3, 1) := by decide +kernel
theorem dL_law_758 : decode cL_law 758 = .ok (.iconst 2, 1) := by decide +kernel
theorem dL_law_759 : decode cL_law 759 = .ok (.iadd, 1) := by decide +kernel
theorem dL_law_760 : decode cL_law 760 = .ok (.iaload, 1) := by decide +kernel
theorem dL_law_761 : decode cL_law 761 = .ok (.invokevirtual 76, 3) := by decide +kernel
theorem dL_law_764 : decode cL_law 764 = .ok (.aload_n 2, 1) := by decide +kernel
theorem dL_law_765 : decode cL_law 765 = .ok (.aload_n 0, 1) := by decide +kernel
theorem dL_law_766 : decode cL_law 766 = .ok (.iload_n 3, 1) := by decide +kernel
theorem dL_law_767 : decode cL_law 767 = .ok (.iconst 1, 1) := by decide +kernel
theorem dL_law_768 : decode cL_law 768 = .ok (.iadd, 1) := by decide +kernel
theorem dL_law_769 : decode cL_law 769 = .ok (.iaload, 1) := by decide +kernel
theorem dL_law_770 : decode cL_law 770 = .ok (.aload_n 0, 1) := by decide +kernel
theorem dL_law_771 : decode cL_law 771 = .ok (.iload_n 3, 1) := by decide +kernel
theorem dL_law_772 : decode cL_law 772 = .ok (.iconst 2, 1) := by decide +kernel
theorem dL_law_773 : decode cL_law 773 = .ok (.iadd, 1) := by decide +kernel
theorem dL_law_774 : decode cL_law 774 = .ok (.iaload, 1) := by decide +kernel
theorem dL_law_775 : decode cL_law 775 = .ok (.invokevirtual 79, 3) := by decide +kernel
theorem dL_law_778 : decode cL_law 778 = .ok (.if_icmp .eq 289, 3) := by decide +kernel
theorem dL_law_781 : decode cL_law 781 = .ok (.iconst 0, 1) := by decide +kernel
theorem dL_law_782 : decode cL_law 782 = .ok (.ireturn, 1) := by decide +kernel
theorem dL_law_783 : decode cL_law 783 = .ok (.aload_n 1, 1) := by decide +kernel
theorem dL_law_784 : decode cL_law 784 = .ok (.aload_n 0, 1) := by decide +kernel
theorem dL_law_785 : decode cL_law 785 = .ok (.iload_n 3, 1) := by decide +kernel
theorem dL_law_786 : decode cL_law 786 = .ok (.iconst 1, 1) := by decide +kernel
theorem dL_law_787 : decode cL_law 787 = .ok (.iadd, 1) := by decide +kernel
theorem dL_law_788 : decode cL_law 788 = .ok (.iaload, 1) := by decide +kernel
theorem dL_law_789 : decode cL_law 789 = .ok (.aload_n 0, 1) := by decide +kernel
theorem dL_law_790 : decode cL_law 790 = .ok (.iload_n 3, 1) := by decide +kernel
theorem dL_law_791 : decode cL_law 791 = .ok (.iconst 2, 1) := by decide +kernel
theorem dL_law_792 : decode cL_law 792 = .ok (.iadd, 1) := by decide +kernel
theorem dL_law_793 : decode cL_law 793 = .ok (.iaload, 1) := by decide +kernel
theorem dL_law_794 : decode cL_law 794 = .ok (.aload_n 0, 1) := by decide +kernel
theorem dL_law_795 : decode cL_law 795 = .ok (.iload_n 3, 1) := by decide +kernel
theorem dL_law_796 : decode cL_law 796 = .ok (.iconst 3, 1) := by decide +kernel
theorem dL_law_797 : decode cL_law 797 = .ok (.iadd, 1) := by decide +kernel
theorem dL_law_798 : decode cL_law 798 = .ok (.iaload, 1) := by decide +kernel
theorem dL_law_799 : decode cL_law 799 = .ok (.invokevirtual 80, 3) := by decide +kernel
theorem dL_law_802 : decode cL_law 802 = .ok (.aload_n 2, 1) := by decide +kernel
theorem dL_law_803 : decode cL_law 803 = .ok (.aload_n 0, 1) := by decide +kernel
theorem dL_law_804 : decode cL_law 804 = .ok (.iload_n 3, 1) := by decide +kernel
theorem dL_law_805 : decode cL_law 805 = .ok (.iconst 1, 1) := by decide +kernel
theorem dL_law_806 : decode cL_law 806 = .ok (.iadd, 1) := by decide +kernel
theorem dL_law_807 : decode cL_law 807 = .ok (.iaload, 1) := by decide +kernel
theorem dL_law_808 : decode cL_law 808 = .ok (.aload_n 0, 1) := by decide +kernel
theorem dL_law_809 : decode cL_law 809 = .ok (.iload_n 3, 1) := by decide +kernel
theorem dL_law_810 : decode cL_law 810 = .ok (.iconst 2, 1) := by decide +kernel
theorem dL_law_811 : decode cL_law 811 = .ok (.iadd, 1) := by decide +kernel
theorem dL_law_812 : decode cL_law 812 = .ok (.iaload, 1) := by decide +kernel
theorem dL_law_813 : decode cL_law 813 = .ok (.aload_n 0, 1) := by decide +kernel
theorem dL_law_814 : decode cL_law 814 = .ok (.iload_n 3, 1) := by decide +kernel
theorem dL_law_815 : decode cL_law 815 = .ok (.iconst 3, 1) := by decide +kernel
theorem dL_law_816 : decode cL_law 816 = .ok (.iadd, 1) := by decide +kernel
theorem dL_law_817 : decode cL_law 817 = .ok (.iaload, 1) := by decide +kernel
theorem dL_law_818 : decode cL_law 818 = .ok (.invokevirtual 83, 3) := by decide +kernel
theorem dL_law_821 : decode cL_law 821 = .ok (.if_icmp .eq 246, 3) := by decide +kernel
theorem dL_law_824 : decode cL_law 824 = .ok (.iconst 0, 1) := by decide +kernel
theorem dL_law_825 : decode cL_law 825 = .ok (.ireturn, 1) := by decide +kernel
theorem dL_law_826 : decode cL_law 826 = .ok (.aload_n 1, 1) := by decide +kernel
theorem dL_law_827 : decode cL_law 827 = .ok (.aload_n 0, 1) := by decide +kernel
theorem dL_law_828 : decode cL_law 828 = .ok (.iload_n 3, 1) := by decide +kernel
theorem dL_law_829 : decode cL_law 829 = .ok (.iconst 1, 1) := by decide +kernel
theorem dL_law_830 : decode cL_law 830 = .ok (.iadd, 1) := by decide +kernel
theorem dL_law_831 : decode cL_law 831 = .ok (.iaload, 1) := by decide +kernel
theorem dL_law_832 : decode cL_law 832 = .ok (.aload_n 0, 1) := by decide +kernel
theorem dL_law_833 : decode cL_law 833 = .ok (.iload_n 3, 1) := by decide +kernel
theorem dL_law_834 : decode cL_law 834 = .ok (.iconst 2, 1) := by decide +kernel
theorem dL_law_835 : decode cL_law 835 = .ok (.iadd, 1) := by decide +kernel
theorem dL_law_836 : decode cL_law 836 = .ok (.iaload, 1) := by decide +kernel
theorem dL_law_837 : decode cL_law 837 = .ok (.aload_n 0, 1) := by decide +kernel
theorem dL_law_838 : decode cL_law 838 = .ok (.iload_n 3, 1) := by decide +kernel
theorem dL_law_839 : decode cL_law 839 = .ok (.iconst 3, 1) := by decide +kernel
theorem dL_law_840 : decode cL_law 840 = .ok (.iadd, 1) := by decide +kernel
theorem dL_law_841 : decode cL_law 841 = .ok (.iaload, 1) := by decide +kernel
theorem dL_law_842 : decode cL_law 842 = .ok (.aload_n 0, 1) := by decide +kernel
theorem dL_law_843 : decode cL_law 843 = .ok (.iload_n 3, 1) := by decide +kernel
theorem dL_law_844 : decode cL_law 844 = .ok (.iconst 4, 1) := by decide +kernel
theorem dL_law_845 : decode cL_law 845 = .ok (.iadd, 1) := by decide +kernel
theorem dL_law_846 : decode cL_law 846 = .ok (.iaload, 1) := by decide +kernel
theorem dL_law_847 : decode cL_law 847 = .ok (.invokevirtual 84, 3) := by decide +kernel
theorem dL_law_850 : decode cL_law 850 = .ok (.aload_n 2, 1) := by decide +kernel
theorem dL_law_851 : decode cL_law 851 = .ok (.aload_n 0, 1) := by decide +kernel
theorem dL_law_852 : decode cL_law 852 = .ok (.iload_n 3, 1) := by decide +kernel
theorem dL_law_853 : decode cL_law 853 = .ok (.iconst 1, 1) := by decide +kernel
theorem dL_law_854 : decode cL_law 854 = .ok (.iadd, 1) := by decide +kernel
theorem dL_law_855 : decode cL_law 855 = .ok (.iaload, 1) := by decide +kernel
theorem dL_law_856 : decode cL_law 856 = .ok (.aload_n 0, 1) := by decide +kernel
theorem dL_law_857 : decode cL_law 857 = .ok (.iload_n 3, 1) := by decide +kernel
theorem dL_law_858 : decode cL_law 858 = .ok (.iconst 2, 1) := by decide +kernel
theorem dL_law_859 : decode cL_law 859 = .ok (.iadd, 1) := by decide +kernel
theorem dL_law_860 : decode cL_law 860 = .ok (.iaload, 1) := by decide +kernel
theorem dL_law_861 : decode cL_law 861 = .ok (.aload_n 0, 1) := by decide +kernel
theorem dL_law_862 : decode cL_law 862 = .ok (.iload_n 3, 1) := by decide +kernel
theorem dL_law_863 : decode cL_law 863 = .ok (.iconst 3, 1) := by decide +kernel
theorem dL_law_864 : decode cL_law 864 = .ok (.iadd, 1) := by decide +kernel
theorem dL_law_865 : decode cL_law 865 = .ok (.iaload, 1) := by decide +kernel
theorem dL_law_866 : decode cL_law 866 = .ok (.aload_n 0, 1) := by decide +kernel
theorem dL_law_867 : decode cL_law 867 = .ok (.iload_n 3, 1) := by decide +kernel
theorem dL_law_868 : decode cL_law 868 = .ok (.iconst 4, 1) := by decide +kernel
theorem dL_law_869 : decode cL_law 869 = .ok (.iadd, 1) := by decide +kernel
theorem dL_law_870 : decode cL_law 870 = .ok (.iaload, 1) := by decide +kernel
theorem dL_law_871 : decode cL_law 871 = .ok (.invokevirtual 87, 3) := by decide +kernel
theorem dL_law_874 : decode cL_law 874 = .ok (.if_icmp .eq 193, 3) := by decide +kernel
theorem dL_law_877 : decode cL_law 877 = .ok (.iconst 0, 1) := by decide +kernel
theorem dL_law_878 : decode cL_law 878 = .ok (.ireturn, 1) := by decide +kernel
theorem dL_law_879 : decode cL_law 879 = .ok (.aload_n 1, 1) := by decide +kernel
theorem dL_law_880 : decode cL_law 880 = .ok (.aload_n 0, 1) := by decide +kernel
theorem dL_law_881 : decode cL_law 881 = .ok (.iload_n 3, 1) := by decide +kernel
theorem dL_law_882 : decode cL_law 882 = .ok (.iconst 1, 1) := by decide +kernel
theorem dL_law_883 : decode cL_law 883 = .ok (.iadd, 1) := by decide +kernel
theorem dL_law_884 : decode cL_law 884 = .ok (.iaload, 1) := by decide +kernel
theorem dL_law_885 : decode cL_law 885 = .ok (.aload_n 0, 1) := by decide +kernel
theorem dL_law_886 : decode cL_law 886 = .ok (.iload_n 3, 1) := by decide +kernel
theorem dL_law_887 : decode cL_law 887 = .ok (.iconst 2, 1) := by decide +kernel
theorem dL_law_888 : decode cL_law 888 = .ok (.iadd, 1) := by decide +kernel
theorem dL_law_889 : decode cL_law 889 = .ok (.iaload, 1) := by decide +kernel
theorem dL_law_890 : decode cL_law 890 = .ok (.invokevirtual 88, 3) := by decide +kernel
theorem dL_law_893 : decode cL_law 893 = .ok (.aload_n 2, 1) := by decide +kernel
theorem dL_law_894 : decode cL_law 894 = .ok (.aload_n 0, 1) := by decide +kernel
theorem dL_law_895 : decode cL_law 895 = .ok (.iload_n 3, 1) := by decide +kernel
theorem dL_law_896 : decode cL_law 896 = .ok (.iconst 1, 1) := by decide +kernel
theorem dL_law_897 : decode cL_law 897 = .ok (.iadd, 1) := by decide +kernel
theorem dL_law_898 : decode cL_law 898 = .ok (.iaload, 1) := by decide +kernel
theorem dL_law_899 : decode cL_law 899 = .ok (.aload_n 0, 1) := by decide +kernel
theorem dL_law_900 : decode cL_law 900 = .ok (.iload_n 3, 1) := by decide +kernel
theorem dL_law_901 : decode cL_law 901 = .ok (.iconst 2, 1) := by decide +kernel
theorem dL_law_902 : decode cL_law 902 = .ok (.iadd, 1) := by decide +kernel
theorem dL_law_903 : decode cL_law 903 = .ok (.iaload, 1) := by decide +kernel
theorem dL_law_904 : decode cL_law 904 = .ok (.invokevirtual 91, 3) := by decide +kernel
theorem dL_law_907 : decode cL_law 907 = .ok (.if_icmp .eq 160, 3) := by decide +kernel
theorem dL_law_910 : decode cL_law 910 = .ok (.iconst 0, 1) := by decide +kernel
theorem dL_law_911 : decode cL_law 911 = .ok (.ireturn, 1) := by decide +kernel
theorem dL_law_912 : decode cL_law 912 = .ok (.aload_n 1, 1) := by decide +kernel
theorem dL_law_913 : decode cL_law 913 = .ok (.aload_n 0, 1) := by decide +kernel
theorem dL_law_914 : decode cL_law 914 = .ok (.iload_n 3, 1) := by decide +kernel
theorem dL_law_915 : decode cL_law 915 = .ok (.iconst 1, 1) := by decide +kernel
theorem dL_law_916 : decode cL_law 916 = .ok (.iadd, 1) := by decide +kernel
theorem dL_law_917 : decode cL_law 917 = .ok (.iaload, 1) := by decide +kernel
theorem dL_law_918 : decode cL_law 918 = .ok (.aload_n 0, 1) := by decide +kernel
theorem dL_law_919 : decode cL_law 919 = .ok (.iload_n 3, 1) := by decide +kernel
theorem dL_law_920 : decode cL_law 920 = .ok (.iconst 2, 1) := by decide +kernel
theorem dL_law_921 : decode cL_law 921 = .ok (.iadd, 1) := by decide +kernel
theorem dL_law_922 : decode cL_law 922 = .ok (.iaload, 1) := by decide +kernel
theorem dL_law_923 : decode cL_law 923 = .ok (.aload_n 0, 1) := by decide +kernel
theorem dL_law_924 : decode cL_law 924 = .ok (.iload_n 3, 1) := by decide +kernel
theorem dL_law_925 : decode cL_law 925 = .ok (.iconst 3, 1) := by decide +kernel
theorem dL_law_926 : decode cL_law 926 = .ok (.iadd, 1) := by decide +kernel
theorem dL_law_927 : decode cL_law 927 = .ok (.iaload, 1) := by decide +kernel
theorem dL_law_928 : decode cL_law 928 = .ok (.invokevirtual 92, 3) := by decide +kernel
theorem dL_law_931 : decode cL_law 931 = .ok (.aload_n 2, 1) := by decide +kernel
theorem dL_law_932 : decode cL_law 932 = .ok (.aload_n 0, 1) := by decide +kernel
theorem dL_law_933 : decode cL_law 933 = .ok (.iload_n 3, 1) := by decide +kernel
theorem dL_law_934 : decode cL_law 934 = .ok (.iconst 1, 1) := by decide +kernel
theorem dL_law_935 : decode cL_law 935 = .ok (.iadd, 1) := by decide +kernel
theorem dL_law_936 : decode cL_law 936 = .ok (.iaload, 1) := by decide +kernel
theorem dL_law_937 : decode cL_law 937 = .ok (.aload_n 0, 1) := by decide +kernel
theorem dL_law_938 : decode cL_law 938 = .ok (.iload_n 3, 1) := by decide +kernel
theorem dL_law_939 : decode cL_law 939 = .ok (.iconst 2, 1) := by decide +kernel
theorem dL_law_940 : decode cL_law 940 = .ok (.iadd, 1) := by decide +kernel
theorem dL_law_941 : decode cL_law 941 = .ok (.iaload, 1) := by decide +kernel
theorem dL_law_942 : decode cL_law 942 = .ok (.aload_n 0, 1) := by decide +kernel
theorem dL_law_943 : decode cL_law 943 = .ok (.iload_n 3, 1) := by decide +kernel
theorem dL_law_944 : decode cL_law 944 = .ok (.iconst 3, 1) := by decide +kernel
theorem dL_law_945 : decode cL_law 945 = .ok (.iadd, 1) := by decide +kernel
theorem dL_law_946 : decode cL_law 946 = .ok (.iaload, 1) := by decide +kernel
theorem dL_law_947 : decode cL_law 947 = .ok (.invokevirtual 95, 3) := by decide +kernel
theorem dL_law_950 : decode cL_law 950 = .ok (.if_icmp .eq 117, 3) := by decide +kernel
theorem dL_law_953 : decode cL_law 953 = .ok (.iconst 0, 1) := by decide +kernel
theorem dL_law_954 : decode cL_law 954 = .ok (.ireturn, 1) := by decide +kernel
theorem dL_law_955 : decode cL_law 955 = .ok (.aload_n 1, 1) := by decide +kernel
theorem dL_law_956 : decode cL_law 956 = .ok (.aload_n 0, 1) := by decide +kernel
theorem dL_law_957 : decode cL_law 957 = .ok (.iload_n 3, 1) := by decide +kernel
theorem dL_law_958 : decode cL_law 958 = .ok (.iconst 1, 1) := by decide +kernel
theorem dL_law_959 : decode cL_law 959 = .ok (.iadd, 1) := by decide +kernel
theorem dL_law_960 : decode cL_law 960 = .ok (.iaload, 1) := by decide +kernel
theorem dL_law_961 : decode cL_law 961 = .ok (.aload_n 0, 1) := by decide +kernel
theorem dL_law_962 : decode cL_law 962 = .ok (.iload_n 3, 1) := by decide +kernel
theorem dL_law_963 : decode cL_law 963 = .ok (.iconst 2, 1) := by decide +kernel
theorem dL_law_964 : decode cL_law 964 = .ok (.iadd, 1) := by decide +kernel
theorem dL_law_965 : decode cL_law 965 = .ok (.iaload, 1) := by decide +kernel
theorem dL_law_966 : decode cL_law 966 = .ok (.aload_n 0, 1) := by decide +kernel
theorem dL_law_967 : decode cL_law 967 = .ok (.iload_n 3, 1) := by decide +kernel
theorem dL_law_968 : decode cL_law 968 = .ok (.iconst 3, 1) := by decide +kernel
theorem dL_law_969 : decode cL_law 969 = .ok (.iadd, 1) := by decide +kernel
theorem dL_law_970 : decode cL_law 970 = .ok (.iaload, 1) := by decide +kernel
theorem dL_law_971 : decode cL_law 971 = .ok (.invokevirtual 96, 3) := by decide +kernel
theorem dL_law_974 : decode cL_law 974 = .ok (.aload_n 2, 1) := by decide +kernel
theorem dL_law_975 : decode cL_law 975 = .ok (.aload_n 0, 1) := by decide +kernel
theorem dL_law_976 : decode cL_law 976 = .ok (.iload_n 3, 1) := by decide +kernel
theorem dL_law_977 : decode cL_law 977 = .ok (.iconst 1, 1) := by decide +kernel
theorem dL_law_978 : decode cL_law 978 = .ok (.iadd, 1) := by decide +kernel
theorem dL_law_979 : decode cL_law 979 = .ok (.iaload, 1) := by decide +kernel
theorem dL_law_980 : decode cL_law 980 = .ok (.aload_n 0, 1) := by decide +kernel
theorem dL_law_981 : decode cL_law 981 = .ok (.iload_n 3, 1) := by decide +kernel
theorem dL_law_982 : decode cL_law 982 = .ok (.iconst 2, 1) := by decide +kernel
theorem dL_law_983 : decode cL_law 983 = .ok (.iadd, 1) := by decide +kernel
theorem dL_law_984 : decode cL_law 984 = .ok (.iaload, 1) := by decide +kernel
theorem dL_law_985 : decode cL_law 985 = .ok (.aload_n 0, 1) := by decide +kernel
theorem dL_law_986 : decode cL_law 986 = .ok (.iload_n 3, 1) := by decide +kernel
theorem dL_law_987 : decode cL_law 987 = .ok (.iconst 3, 1) := by decide +kernel
theorem dL_law_988 : decode cL_law 988 = .ok (.iadd, 1) := by decide +kernel
theorem dL_law_989 : decode cL_law 989 = .ok (.iaload, 1) := by decide +kernel
theorem dL_law_990 : decode cL_law 990 = .ok (.invokevirtual 99, 3) := by decide +kernel
theorem dL_law_993 : decode cL_law 993 = .ok (.if_icmp .eq 74, 3) := by decide +kernel
theorem dL_law_996 : decode cL_law 996 = .ok (.iconst 0, 1) := by decide +kernel
theorem dL_law_997 : decode cL_law 997 = .ok (.ireturn, 1) := by decide +kernel
theorem dL_law_998 : decode cL_law 998 = .ok (.aload_n 1, 1) := by decide +kernel
theorem dL_law_999 : decode cL_law 999 = .ok (.aload_n 0, 1) := by decide +kernel
theorem dL_law_1000 : decode cL_law 1000 = .ok (.iload_n 3, 1) := by decide +kernel
theorem dL_law_1001 : decode cL_law 1001 = .ok (.iconst 1, 1) := by decide +kernel
theorem dL_law_1002 : decode cL_law 1002 = .ok (.iadd, 1) := by decide +kernel
theorem dL_law_1003 : decode cL_law 1003 = .ok (.iaload, 1) := by decide +kernel
theorem dL_law_1004 : decode cL_law 1004 = .ok (.invokevirtual 100, 3) := by decide +kernel
theorem dL_law_1007 : decode cL_law 1007 = .ok (.aload_n 2, 1) := by decide +kernel
theorem dL_law_1008 : decode cL_law 1008 = .ok (.aload_n 0, 1) := by decide +kernel
theorem dL_law_1009 : decode cL_law 1009 = .ok (.iload_n 3, 1) := by decide +kernel
theorem dL_law_1010 : decode cL_law 1010 = .ok (.iconst 1, 1) := by decide +kernel
theorem dL_law_1011 : decode cL_law 1011 = .ok (.iadd, 1) := by decide +kernel
theorem dL_law_1012 : decode cL_law 1012 = .ok (.iaload, 1) := by decide +kernel
theorem dL_law_1013 : decode cL_law 1013 = .ok (.invokevirtual 103, 3) := by decide +kernel
theorem dL_law_1016 : decode cL_law 1016 = .ok (.if_icmp .eq 51, 3) := by decide +kernel
theorem dL_law_1019 : decode cL_law 1019 = .ok (.iconst 0, 1) := by decide +kernel
theorem dL_law_1020 : decode cL_law 1020 = .ok (.ireturn, 1) := by decide +kernel
theorem dL_law_1021 : decode cL_law 1021 = .ok (.aload_n 1, 1) := by decide +kernel
theorem dL_law_1022 : decode cL_law 1022 = .ok (.aload_n 0, 1) := by decide +kernel
theorem dL_law_1023 : decode cL_law 1023 = .ok (.iload_n 3, 1) := by decide +kernel
theorem dL_law_1024 : decode cL_law 1024 = .ok (.iconst 1, 1) := by decide +kernel
theorem dL_law_1025 : decode cL_law 1025 = .ok (.iadd, 1) := by decide +kernel
theorem dL_law_1026 : decode cL_law 1026 = .ok (.iaload, 1) := by decide +kernel
theorem dL_law_1027 : decode cL_law 1027 = .ok (.invokevirtual 104, 3) := by decide +kernel
theorem dL_law_1030 : decode cL_law 1030 = .ok (.aload_n 2, 1) := by decide +kernel
theorem dL_law_1031 : decode cL_law 1031 = .ok (.aload_n 0, 1) := by decide +kernel
theorem dL_law_1032 : decode cL_law 1032 = .ok (.iload_n 3, 1) := by decide +kernel
theorem dL_law_1033 : decode cL_law 1033 = .ok (.iconst 1, 1) := by decide +kernel
theorem dL_law_1034 : decode cL_law 1034 = .ok (.iadd, 1) := by decide +kernel
theorem dL_law_1035 : decode cL_law 1035 = .ok (.iaload, 1) := by decide +kernel
theorem dL_law_1036 : decode cL_law 1036 = .ok (.invokevirtual 108, 3) := by decide +kernel
theorem dL_law_1039 : decode cL_law 1039 = .ok (.if_icmp .eq 28, 3) := by decide +kernel
theorem dL_law_1042 : decode cL_law 1042 = .ok (.iconst 0, 1) := by decide +kernel
theorem dL_law_1043 : decode cL_law 1043 = .ok (.ireturn, 1) := by decide +kernel
theorem dL_law_1044 : decode cL_law 1044 = .ok (.aload_n 1, 1) := by decide +kernel
theorem dL_law_1045 : decode cL_law 1045 = .ok (.aload_n 0, 1) := by decide +kernel
theorem dL_law_1046 : decode cL_law 1046 = .ok (.iload_n 3, 1) := by decide +kernel
theorem dL_law_1047 : decode cL_law 1047 = .ok (.iconst 1, 1) := by decide +kernel
theorem dL_law_1048 : decode cL_law 1048 = .ok (.iadd, 1) := by decide +kernel
theorem dL_law_1049 : decode cL_law 1049 = .ok (.iaload, 1) := by decide +kernel
theorem dL_law_1050 : decode cL_law 1050 = .ok (.invokevirtual 109, 3) := by decide +kernel
theorem dL_law_1053 : decode cL_law 1053 = .ok (.aload_n 2, 1) := by decide +kernel
theorem dL_law_1054 : decode cL_law 1054 = .ok (.aload_n 0, 1) := by decide +kernel
theorem dL_law_1055 : decode cL_law 1055 = .ok (.iload_n 3, 1) := by decide +kernel
theorem dL_law_1056 : decode cL_law 1056 = .ok (.iconst 1, 1) := by decide +kernel
theorem dL_law_1057 : decode cL_law 1057 = .ok (.iadd, 1) := by decide +kernel
theorem dL_law_1058 : decode cL_law 1058 = .ok (.iaload, 1) := by decide +kernel
theorem dL_law_1059 : decode cL_law 1059 = .ok (.invokevirtual 112, 3) := by decide +kernel
theorem dL_law_1062 : decode cL_law 1062 = .ok (.if_icmp .eq 5, 3) := by decide +kernel
theorem dL_law_1065 : decode cL_law 1065 = .ok (.iconst 0, 1) := by decide +kernel
theorem dL_law_1066 : decode cL_law 1066 = .ok (.ireturn, 1) := by decide +kernel
theorem dL_law_1067 : decode cL_law 1067 = .ok (.iinc 3 6, 3) := by decide +kernel
theorem dL_law_1070 : decode cL_law 1070 = .ok (.goto (-1052), 3) := by decide +kernel
theorem dL_law_1073 : decode cL_law 1073 = .ok (.iconst 1, 1) := by decide +kernel
theorem dL_law_1074 : decode cL_law 1074 = .ok (.ireturn, 1) := by decide +kernel
