theorem dX4_passBeat_12 : decode cX4_passBeat 12 = .ok (.if_icmp .ge 54, 3) := by decide +kernel
theorem dX4_passBeat_15 : decode cX4_passBeat 15 = .ok (.iload_n 3, 1) := by decide +kernel
theorem dX4_passBeat_16 : decode cX4_passBeat 16 = .ok (.iload_n 1, 1) := by decide +kernel
theorem dX4_passBeat_17 : decode cX4_passBeat 17 = .ok (.if_icmp .eq 43, 3) := by decide +kernel
theorem dX4_passBeat_20 : decode cX4_passBeat 20 = .ok (.aload_n 0, 1) := by decide +kernel
theorem dX4_passBeat_21 : decode cX4_passBeat 21 = .ok (.getfield 12, 3) := by decide +kernel
theorem dX4_passBeat_24 : decode cX4_passBeat 24 = .ok (.getfield 104, 3) := by decide +kernel
theorem dX4_passBeat_27 : decode cX4_passBeat 27 = .ok (.iload_n 3, 1) := by decide +kernel
theorem dX4_passBeat_28 : decode cX4_passBeat 28 = .ok (.iaload, 1) := by decide +kernel
theorem dX4_passBeat_29 : decode cX4_passBeat 29 = .ok (.ifCond .le 31, 3) := by decide +kernel
theorem dX4_passBeat_32 : decode cX4_passBeat 32 = .ok (.aload_n 0, 1) := by decide +kernel
theorem dX4_passBeat_33 : decode cX4_passBeat 33 = .ok (.getfield 12, 3) := by decide +kernel
theorem dX4_passBeat_36 : decode cX4_passBeat 36 = .ok (.getfield 104, 3) := by decide +kernel
theorem dX4_passBeat_39 : decode cX4_passBeat 39 = .ok (.iload_n 3, 1) := by decide +kernel
theorem dX4_passBeat_40 : decode cX4_passBeat 40 = .ok (.dup2, 1) := by decide +kernel
theorem dX4_passBeat_41 : decode cX4_passBeat 41 = .ok (.iaload, 1) := by decide +kernel
theorem dX4_passBeat_42 : decode cX4_passBeat 42 = .ok (.iconst 1, 1) := by decide +kernel
theorem dX4_passBeat_43 : decode cX4_passBeat 43 = .ok (.isub, 1) := by decide +kernel
theorem dX4_passBeat_44 : decode cX4_passBeat 44 = .ok (.iastore, 1) := by decide +kernel
theorem dX4_passBeat_45 : decode cX4_passBeat 45 = .ok (.aload_n 0, 1) := by decide +kernel
theorem dX4_passBeat_46 : decode cX4_passBeat 46 = .ok (.getfield 12, 3) := by decide +kernel
theorem dX4_passBeat_49 : decode cX4_passBeat 49 = .ok (.getfield 104, 3) := by decide +kernel
theorem dX4_passBeat_52 : decode cX4_passBeat 52 = .ok (.iload_n 3, 1) := by decide +kernel
theorem dX4_passBeat_53 : decode cX4_passBeat 53 = .ok (.iaload, 1) := by decide +kernel
theorem dX4_passBeat_54 : decode cX4_passBeat 54 = .ok (.ifCond .ne 6, 3) := by decide +kernel
theorem dX4_passBeat_57 : decode cX4_passBeat 57 = .ok (.iinc 2 1, 3) := by decide +kernel
theorem dX4_passBeat_60 : decode cX4_passBeat 60 = .ok (.iinc 3 1, 3) := by decide +kernel
theorem dX4_passBeat_63 : decode cX4_passBeat 63 = .ok (.goto (-59), 3) := by decide +kernel
theorem dX4_passBeat_66 : decode cX4_passBeat 66 = .ok (.aload_n 0, 1) := by decide +kernel
theorem dX4_passBeat_67 : decode cX4_passBeat 67 = .ok (.dup, 1) := by decide +kernel
theorem dX4_passBeat_68 : decode cX4_passBeat 68 = .ok (.getfield 26, 3) := by decide +kernel
theorem dX4_passBeat_71 : decode cX4_passBeat 71 = .ok (.iconst 1, 1) := by decide +kernel
theorem dX4_passBeat_72 : decode cX4_passBeat 72 = .ok (.iadd, 1) := by decide +kernel
theorem dX4_passBeat_73 : decode cX4_passBeat 73 = .ok (.putfield 26, 3) := by decide +kernel
theorem dX4_passBeat_76 : decode cX4_passBeat 76 = .ok (.aload_n 0, 1) := by decide +kernel
theorem dX4_passBeat_77 : decode cX4_passBeat 77 = .ok (.dup, 1) := by decide +kernel
theorem dX4_passBeat_78 : decode cX4_passBeat 78 = .ok (.getfield 29, 3) := by decide +kernel
theorem dX4_passBeat_81 : decode cX4_passBeat 81 = .ok (.iload_n 2, 1) := by decide +kernel
theorem dX4_passBeat_82 : decode cX4_passBeat 82 = .ok (.iadd, 1) := by decide +kernel
theorem dX4_passBeat_83 : decode cX4_passBeat 83 = .ok (.putfield 29, 3) := by decide +kernel
theorem dX4_passBeat_86 : decode cX4_passBeat 86 = .ok (.aload_n 0, 1) := by decide +kernel
theorem dX4_passBeat_87 : decode cX4_passBeat 87 = .ok (.aload_n 0, 1) := by decide +kernel
theorem dX4_passBeat_88 : decode cX4_passBeat 88 = .ok (.getfield 53, 3) := by decide +kernel
theorem dX4_passBeat_91 : decode cX4_passBeat 91 = .ok (.iload_n 2, 1) := by decide +kernel
theorem dX4_passBeat_92 : decode cX4_passBeat 92 = .ok (.invokestatic 91, 3) := by decide +kernel
theorem dX4_passBeat_95 : decode cX4_passBeat 95 = .ok (.putfield 53, 3) := by decide +kernel
theorem dX4_passBeat_98 : decode cX4_passBeat 98 = .ok (.aload_n 0, 1) := by decide +kernel
theorem dX4_passBeat_99 : decode cX4_passBeat 99 = .ok (.iload_n 2, 1) := by decide +kernel
theorem dX4_passBeat_100 : decode cX4_passBeat 100 = .ok (.ifCond .ne 12, 3) := by decide +kernel
theorem dX4_passBeat_103 : decode cX4_passBeat 103 = .ok (.aload_n 0, 1) := by decide +kernel
theorem dX4_passBeat_104 : decode cX4_passBeat 104 = .ok (.getfield 35, 3) := by decide +kernel
theorem dX4_passBeat_107 : decode cX4_passBeat 107 = .ok (.iconst 1, 1) := by decide +kernel
theorem dX4_passBeat_108 : decode cX4_passBeat 108 = .ok (.iadd, 1) := by decide +kernel
theorem dX4_passBeat_109 : decode cX4_passBeat 109 = .ok (.goto 4, 3) := by decide +kernel
theorem dX4_passBeat_112 : decode cX4_passBeat 112 = .ok (.iconst 0, 1) := by decide +kernel
theorem dX4_passBeat_113 : decode cX4_passBeat 113 = .ok (.putfield 35, 3) := by decide +kernel
theorem dX4_passBeat_116 : decode cX4_passBeat 116 = .ok (.aload_n 0, 1) := by decide +kernel
theorem dX4_passBeat_117 : decode cX4_passBeat 117 = .ok (.aload_n 0, 1) := by decide +kernel
theorem dX4_passBeat_118 : decode cX4_passBeat 118 = .ok (.getfield 47, 3) := by decide +kernel
theorem dX4_passBeat_121 : decode cX4_passBeat 121 = .ok (.aload_n 0, 1) := by decide +kernel
theorem dX4_passBeat_122 : decode cX4_passBeat 122 = .ok (.getfield 35, 3) := by decide +kernel
theorem dX4_passBeat_125 : decode cX4_passBeat 125 = .ok (.invokestatic 91, 3) := by decide +kernel
theorem dX4_passBeat_128 : decode cX4_passBeat 128 = .ok (.putfield 47, 3) := by decide +kernel
theorem dX4_passBeat_131 : decode cX4_passBeat 131 = .ok (.return_, 1) := by decide +kernel
theorem dX4_view_0 : decode cX4_view 0 = .ok (.iload_n 1, 1) := by decide +kernel
theorem dX4_view_1 : decode cX4_view 1 = .ok (.tableswitch 60 0 4 #[35, 40, 45, 50, 55], 35) := by decide +kernel
theorem dX4_view_36 : decode cX4_view 36 = .ok (.aload_n 0, 1) := by decide +kernel
theorem dX4_view_37 : decode cX4_view 37 = .ok (.getfield 26, 3) := by decide +kernel
theorem dX4_view_40 : decode cX4_view 40 = .ok (.ireturn, 1) := by decide +kernel
theorem dX4_view_41 : decode cX4_view 41 = .ok (.aload_n 0, 1) := by decide +kernel
theorem dX4_view_42 : decode cX4_view 42 = .ok (.getfield 22, 3) := by decide +kernel
theorem dX4_view_45 : decode cX4_view 45 = .ok (.ireturn, 1) := by decide +kernel
theorem dX4_view_46 : decode cX4_view 46 = .ok (.aload_n 0, 1) := by decide +kernel
theorem dX4_view_47 : decode cX4_view 47 = .ok (.invokevirtual 132, 3) := by decide +kernel
theorem dX4_view_50 : decode cX4_view 50 = .ok (.ireturn, 1) := by decide +kernel
theorem dX4_view_51 : decode cX4_view 51 = .ok (.aload_n 0, 1) := by decide +kernel
theorem dX4_view_52 : decode cX4_view 52 = .ok (.getfield 29, 3) := by decide +kernel
theorem dX4_view_55 : decode cX4_view 55 = .ok (.ireturn, 1) := by decide +kernel
theorem dX4_view_56 : decode cX4_view 56 = .ok (.aload_n 0, 1) := by decide +kernel
theorem dX4_view_57 : decode cX4_view 57 = .ok (.getfield 32, 3) := by decide +kernel
theorem dX4_view_60 : decode cX4_view 60 = .ok (.ireturn, 1) := by decide +kernel
theorem dX4_view_61 : decode cX4_view 61 = .ok (.aload_n 0, 1) := by decide +kernel
theorem dX4_view_62 : decode cX4_view 62 = .ok (.getfield 12, 3) := by decide +kernel
theorem dX4_view_65 : decode cX4_view 65 = .ok (.iload_n 1, 1) := by decide +kernel
theorem dX4_view_66 : decode cX4_view 66 = .ok (.bipush 10, 2) := by decide +kernel
theorem dX4_view_68 : decode cX4_view 68 = .ok (.isub, 1) := by decide +kernel
theorem dX4_view_69 : decode cX4_view 69 = .ok (.invokevirtual 103, 3) := by decide +kernel
theorem dX4_view_72 : decode cX4_view 72 = .ok (.ifCond .eq 16, 3) := by decide +kernel
theorem dX4_view_75 : decode cX4_view 75 = .ok (.aload_n 0, 1) := by decide +kernel
theorem dX4_view_76 : decode cX4_view 76 = .ok (.getfield 12, 3) := by decide +kernel
theorem dX4_view_79 : decode cX4_view 79 = .ok (.getfield 104, 3) := by decide +kernel
theorem dX4_view_82 : decode cX4_view 82 = .ok (.iload_n 1, 1) := by decide +kernel
theorem dX4_view_83 : decode cX4_view 83 = .ok (.bipush 10, 2) := by decide +kernel
theorem dX4_view_85 : decode cX4_view 85 = .ok (.isub, 1) := by decide +kernel
theorem dX4_view_86 : decode cX4_view 86 = .ok (.iaload, 1) := by decide +kernel
theorem dX4_view_87 : decode cX4_view 87 = .ok (.ireturn, 1) := by decide +kernel
theorem dX4_view_88 : decode cX4_view 88 = .ok (.aload_n 0, 1) := by decide +kernel
theorem dX4_view_89 : decode cX4_view 89 = .ok (.getfield 12, 3) := by decide +kernel
theorem dX4_view_92 : decode cX4_view 92 = .ok (.iload_n 1, 1) := by decide +kernel
theorem dX4_view_93 : decode cX4_view 93 = .ok (.bipush 20, 2) := by decide +kernel
theorem dX4_view_95 : decode cX4_view 95 = .ok (.isub, 1) := by decide +kernel
theorem dX4_view_96 : decode cX4_view 96 = .ok (.invokevirtual 103, 3) := by decide +kernel
theorem dX4_view_99 : decode cX4_view 99 = .ok (.ifCond .eq 18, 3) := by decide +kernel
theorem dX4_view_102 : decode cX4_view 102 = .ok (.aload_n 0, 1) := by decide +kernel
theorem dX4_view_103 : decode cX4_view 103 = .ok (.getfield 12, 3) := by decide +kernel
theorem dX4_view_106 : decode cX4_view 106 = .ok (.getfield 113, 3) := by decide +kernel
theorem dX4_view_109 : decode cX4_view 109 = .ok (.iload_n 1, 1) := by decide +kernel
theorem dX4_view_110 : decode cX4_view 110 = .ok (.bipush 20, 2) := by decide +kernel
theorem dX4_view_112 : decode cX4_view 112 = .ok (.isub, 1) := by decide +kernel
theorem dX4_view_113 : decode cX4_view 113 = .ok (.iaload, 1) := by decide +kernel
theorem dX4_view_114 : decode cX4_view 114 = .ok (.goto 4, 3) := by decide +kernel
theorem dX4_view_117 : decode cX4_view 117 = .ok (.iconst (-1), 1) := by decide +kernel
theorem dX4_view_118 : decode cX4_view 118 = .ok (.ireturn, 1) := by decide +kernel
theorem dX4_standingBits_0 : decode cX4_standingBits 0 = .ok (.iconst 0, 1) := by decide +kernel
theorem dX4_standingBits_1 : decode cX4_standingBits 1 = .ok (.istore_n 1, 1) := by decide +kernel
theorem dX4_standingBits_2 : decode cX4_standingBits 2 = .ok (.iconst 0, 1) := by decide +kernel
theorem dX4_standingBits_3 : decode cX4_standingBits 3 = .ok (.istore_n 2, 1) := by decide +kernel
theorem dX4_standingBits_4 : decode cX4_standingBits 4 = .ok (.iload_n 2, 1) := by decide +kernel
theorem dX4_standingBits_5 : decode cX4_standingBits 5 = .ok (.aload_n 0, 1) := by decide +kernel
theorem dX4_standingBits_6 : decode cX4_standingBits 6 = .ok (.getfield 12, 3) := by decide +kernel
theorem dX4_standingBits_9 : decode cX4_standingBits 9 = .ok (.getfield 87, 3) := by decide +kernel
theorem dX4_standingBits_12 : decode cX4_standingBits 12 = .ok (.if_icmp .ge 27, 3) := by decide +kernel
theorem dX4_standingBits_15 : decode cX4_standingBits 15 = .ok (.aload_n 0, 1) := by decide +kernel
theorem dX4_standingBits_16 : decode cX4_standingBits 16 = .ok (.getfield 12, 3) := by decide +kernel
theorem dX4_standingBits_19 : decode cX4_standingBits 19 = .ok (.getfield 104, 3) := by decide +kernel
theorem dX4_standingBits_22 : decode cX4_standingBits 22 = .ok (.iload_n 2, 1) := by decide +kernel
theorem dX4_standingBits_23 : decode cX4_standingBits 23 = .ok (.iaload, 1) := by decide +kernel
theorem dX4_standingBits_24 : decode cX4_standingBits 24 = .ok (.ifCond .le 9, 3) := by decide +kernel
theorem dX4_standingBits_27 : decode cX4_standingBits 27 = .ok (.iload_n 1, 1) := by decide +kernel
theorem dX4_standingBits_28 : decode cX4_standingBits 28 = .ok (.iconst 1, 1) := by decide +kernel
theorem dX4_standingBits_29 : decode cX4_standingBits 29 = .ok (.iload_n 2, 1) := by decide +kernel
theorem dX4_standingBits_30 : decode cX4_standingBits 30 = .ok (.ishl, 1) := by decide +kernel
theorem dX4_standingBits_31 : decode cX4_standingBits 31 = .ok (.ior, 1) := by decide +kernel
theorem dX4_standingBits_32 : decode cX4_standingBits 32 = .ok (.istore_n 1, 1) := by decide +kernel
theorem dX4_standingBits_33 : decode cX4_standingBits 33 = .ok (.iinc 2 1, 3) := by decide +kernel
theorem dX4_standingBits_36 : decode cX4_standingBits 36 = .ok (.goto (-32), 3) := by decide +kernel
theorem dX4_standingBits_39 : decode cX4_standingBits 39 = .ok (.iload_n 1, 1) := by decide +kernel
theorem dX4_standingBits_40 : decode cX4_standingBits 40 = .ok (.ireturn, 1) := by decide +kernel
theorem dX4_mostSpun_0 : decode cX4_mostSpun 0 = .ok (.iconst (-1), 1) := by decide +kernel
theorem dX4_mostSpun_1 : decode cX4_mostSpun 1 = .ok (.istore_n 1, 1) := by decide +kernel
theorem dX4_mostSpun_2 : decode cX4_mostSpun 2 = .ok (.iconst 0, 1) := by decide +kernel
theorem dX4_mostSpun_3 : decode cX4_mostSpun 3 = .ok (.istore_n 2, 1) := by decide +kernel
theorem dX4_mostSpun_4 : decode cX4_mostSpun 4 = .ok (.iload_n 2, 1) := by decide +kernel
theorem dX4_mostSpun_5 : decode cX4_mostSpun 5 = .ok (.aload_n 0, 1) := by decide +kernel
theorem dX4_mostSpun_6 : decode cX4_mostSpun 6 = .ok (.getfield 12, 3) := by decide +kernel
theorem dX4_mostSpun_9 : decode cX4_mostSpun 9 = .ok (.getfield 87, 3) := by decide +kernel
theorem dX4_mostSpun_12 : decode cX4_mostSpun 12 = .ok (.if_icmp .ge 35, 3) := by decide +kernel
theorem dX4_mostSpun_15 : decode cX4_mostSpun 15 = .ok (.aload_n 0, 1) := by decide +kernel
theorem dX4_mostSpun_16 : decode cX4_mostSpun 16 = .ok (.getfield 18, 3) := by decide +kernel
theorem dX4_mostSpun_19 : decode cX4_mostSpun 19 = .ok (.iload_n 2, 1) := by decide +kernel
theorem dX4_mostSpun_20 : decode cX4_mostSpun 20 = .ok (.iaload, 1) := by decide +kernel
theorem dX4_mostSpun_21 : decode cX4_mostSpun 21 = .ok (.iload_n 1, 1) := by decide +kernel
theorem dX4_mostSpun_22 : decode cX4_mostSpun 22 = .ok (.iconst (-1), 1) := by decide +kernel
theorem dX4_mostSpun_23 : decode cX4_mostSpun 23 = .ok (.if_icmp .ne 7, 3) := by decide +kernel
theorem dX4_mostSpun_26 : decode cX4_mostSpun 26 = .ok (.iconst 0, 1) := by decide +kernel
theorem dX4_mostSpun_27 : decode cX4_mostSpun 27 = .ok (.goto 9, 3) := by decide +kernel
theorem dX4_mostSpun_30 : decode cX4_mostSpun 30 = .ok (.aload_n 0, 1) := by decide +kernel
theorem dX4_mostSpun_31 : decode cX4_mostSpun 31 = .ok (.getfield 18, 3) := by decide +kernel
theorem dX4_mostSpun_34 : decode cX4_mostSpun 34 = .ok (.iload_n 1, 1) := by decide +kernel
theorem dX4_mostSpun_35 : decode cX4_mostSpun 35 = .ok (.iaload, 1) := by decide +kernel
theorem dX4_mostSpun_36 : decode cX4_mostSpun 36 = .ok (.if_icmp .le 5, 3) := by decide +kernel
theorem dX4_mostSpun_39 : decode cX4_mostSpun 39 = .ok (.iload_n 2, 1) := by decide +kernel
theorem dX4_mostSpun_40 : decode cX4_mostSpun 40 = .ok (.istore_n 1, 1) := by decide +kernel
theorem dX4_mostSpun_41 : decode cX4_mostSpun 41 = .ok (.iinc 2 1, 3) := by decide +kernel
theorem dX4_mostSpun_44 : decode cX4_mostSpun 44 = .ok (.goto (-40), 3) := by decide +kernel
theorem dX4_mostSpun_47 : decode cX4_mostSpun 47 = .ok (.iload_n 1, 1) := by decide +kernel
theorem dX4_mostSpun_48 : decode cX4_mostSpun 48 = .ok (.ireturn, 1) := by decide +kernel
theorem dX5_init_0 : decode cX5_init 0 = .ok (.aload_n 0, 1) := by decide +kernel
theorem dX5_init_1 : decode cX5_init 1 = .ok (.invokespecial 3, 3) := by decide +kernel
theorem dX5_init_4 : decode cX5_init 4 = .ok (.aload_n 0, 1) := by decide +kernel
theorem dX5_init_5 : decode cX5_init 5 = .ok (.new 9, 3) := by decide +kernel
theorem dX5_init_8 : decode cX5_init 8 = .ok (.dup, 1) := by decide +kernel
theorem dX5_init_9 : decode cX5_init 9 = .ok (.invokespecial 11, 3) := by decide +kernel
theorem dX5_init_12 : decode cX5_init 12 = .ok (.putfield 12, 3) := by decide +kernel
theorem dX5_init_15 : decode cX5_init 15 = .ok (.aload_n 0, 1) := by decide +kernel
theorem dX5_init_16 : decode cX5_init 16 = .ok (.new 18, 3) := by decide +kernel
theorem dX5_init_19 : decode cX5_init 19 = .ok (.dup, 1) := by decide +kernel
theorem dX5_init_20 : decode cX5_init 20 = .ok (.invokespecial 20, 3) := by decide +kernel
theorem dX5_init_23 : decode cX5_init 23 = .ok (.putfield 21, 3) := by decide +kernel
theorem dX5_init_26 : decode cX5_init 26 = .ok (.aload_n 0, 1) := by decide +kernel
theorem dX5_init_27 : decode cX5_init 27 = .ok (.new 25, 3) := by decide +kernel
theorem dX5_init_30 : decode cX5_init 30 = .ok (.dup, 1) := by decide +kernel
theorem dX5_init_31 : decode cX5_init 31 = .ok (.invokespecial 27, 3) := by decide +kernel
theorem dX5_init_34 : decode cX5_init 34 = .ok (.putfield 28, 3) := by decide +kernel
theorem dX5_init_37 : decode cX5_init 37 = .ok (.aload_n 0, 1) := by decide +kernel
theorem dX5_init_38 : decode cX5_init 38 = .ok (.iconst 0, 1) := by decide +kernel
theorem dX5_init_39 : decode cX5_init 39 = .ok (.putfield 32, 3) := by decide +kernel
theorem dX5_init_42 : decode cX5_init 42 = .ok (.aload_n 0, 1) := by decide +kernel
theorem dX5_init_43 : decode cX5_init 43 = .ok (.iconst (-1), 1) := by decide +kernel
theorem dX5_init_44 : decode cX5_init 44 = .ok (.putfield 36, 3) := by decide +kernel
theorem dX5_init_47 : decode cX5_init 47 = .ok (.aload_n 0, 1) := by decide +kernel
theorem dX5_init_48 : decode cX5_init 48 = .ok (.iconst 0, 1) := by decide +kernel
theorem dX5_init_49 : decode cX5_init 49 = .ok (.newarray .byte, 2) := by decide +kernel
theorem dX5_init_51 : decode cX5_init 51 = .ok (.putfield 39, 3) := by decide +kernel
theorem dX5_init_54 : decode cX5_init 54 = .ok (.aload_n 0, 1) := by decide +kernel
theorem dX5_init_55 : decode cX5_init 55 = .ok (.iconst 0, 1) := by decide +kernel
theorem dX5_init_56 : decode cX5_init 56 = .ok (.putfield 43, 3) := by decide +kernel
theorem dX5_init_59 : decode cX5_init 59 = .ok (.aload_n 0, 1) := by decide +kernel
theorem dX5_init_60 : decode cX5_init 60 = .ok (.iconst 0, 1) := by decide +kernel
theorem dX5_init_61 : decode cX5_init 61 = .ok (.putfield 46, 3) := by decide +kernel
theorem dX5_init_64 : decode cX5_init 64 = .ok (.aload_n 0, 1) := by decide +kernel
theorem dX5_init_65 : decode cX5_init 65 = .ok (.iconst 0, 1) := by decide +kernel
theorem dX5_init_66 : decode cX5_init 66 = .ok (.putfield 49, 3) := by decide +kernel
theorem dX5_init_69 : decode cX5_init 69 = .ok (.aload_n 0, 1) := by decide +kernel
theorem dX5_init_70 : decode cX5_init 70 = .ok (.iconst 0, 1) := by decide +kernel
theorem dX5_init_71 : decode cX5_init 71 = .ok (.putfield 52, 3) := by decide +kernel
theorem dX5_init_74 : decode cX5_init 74 = .ok (.aload_n 0, 1) := by decide +kernel
theorem dX5_init_75 : decode cX5_init 75 = .ok (.iconst 3, 1) := by decide +kernel
theorem dX5_init_76 : decode cX5_init 76 = .ok (.newarray .int, 2) := by decide +kernel
theorem dX5_init_78 : decode cX5_init 78 = .ok (.putfield 55, 3) := by decide +kernel
theorem dX5_init_81 : decode cX5_init 81 = .ok (.return_, 1) := by decide +kernel
theorem dX5_readTape_0 : decode cX5_readTape 0 = .ok (.aload_n 0, 1) := by decide +kernel
theorem dX5_readTape_1 : decode cX5_readTape 1 = .ok (.aload_n 1, 1) := by decide +kernel
theorem dX5_readTape_2 : decode cX5_readTape 2 = .ok (.getfield 59, 3) := by decide +kernel
theorem dX5_readTape_5 : decode cX5_readTape 5 = .ok (.putfield 39, 3) := by decide +kernel
theorem dX5_readTape_8 : decode cX5_readTape 8 = .ok (.aload_n 0, 1) := by decide +kernel
theorem dX5_readTape_9 : decode cX5_readTape 9 = .ok (.aload_n 1, 1) := by decide +kernel
theorem dX5_readTape_10 : decode cX5_readTape 10 = .ok (.getfield 62, 3) := by decide +kernel
theorem dX5_readTape_13 : decode cX5_readTape 13 = .ok (.aload_n 0, 1) := by decide +kernel
theorem dX5_readTape_14 : decode cX5_readTape 14 = .ok (.getfield 39, 3) := by decide +kernel
theorem dX5_readTape_17 : decode cX5_readTape 17 = .ok (.arraylength, 1) := by decide +kernel
theorem dX5_readTape_18 : decode cX5_readTape 18 = .ok (.invokestatic 63, 3) := by decide +kernel
theorem dX5_readTape_21 : decode cX5_readTape 21 = .ok (.putfield 43, 3) := by decide +kernel
theorem dX5_readTape_24 : decode cX5_readTape 24 = .ok (.aload_n 0, 1) := by decide +kernel
theorem dX5_readTape_25 : decode cX5_readTape 25 = .ok (.iconst 0, 1) := by decide +kernel
theorem dX5_readTape_26 : decode cX5_readTape 26 = .ok (.putfield 46, 3) := by decide +kernel
theorem dX5_readTape_29 : decode cX5_readTape 29 = .ok (.aload_n 0, 1) := by decide +kernel
theorem dX5_readTape_30 : decode cX5_readTape 30 = .ok (.iconst 0, 1) := by decide +kernel
theorem dX5_readTape_31 : decode cX5_readTape 31 = .ok (.putfield 32, 3) := by decide +kernel
theorem dX5_readTape_34 : decode cX5_readTape 34 = .ok (.aload_n 0, 1) := by decide +kernel
theorem dX5_readTape_35 : decode cX5_readTape 35 = .ok (.iconst (-1), 1) := by decide +kernel
theorem dX5_readTape_36 : decode cX5_readTape 36 = .ok (.putfield 36, 3) := by decide +kernel
theorem dX5_readTape_39 : decode cX5_readTape 39 = .ok (.aload_n 0, 1) := by decide +kernel
theorem dX5_readTape_40 : decode cX5_readTape 40 = .ok (.getfield 12, 3) := by decide +kernel
theorem dX5_readTape_43 : decode cX5_readTape 43 = .ok (.invokevirtual 69, 3) := by decide +kernel
theorem dX5_readTape_46 : decode cX5_readTape 46 = .ok (.aload_n 0, 1) := by decide +kernel
theorem dX5_readTape_47 : decode cX5_readTape 47 = .ok (.getfield 21, 3) := by decide +kernel
theorem dX5_readTape_50 : decode cX5_readTape 50 = .ok (.iconst 0, 1) := by decide +kernel
theorem dX5_readTape_51 : decode cX5_readTape 51 = .ok (.putfield 72, 3) := by decide +kernel
theorem dX5_readTape_54 : decode cX5_readTape 54 = .ok (.aload_n 0, 1) := by decide +kernel
theorem dX5_readTape_55 : decode cX5_readTape 55 = .ok (.getfield 28, 3) := by decide +kernel
theorem dX5_readTape_58 : decode cX5_readTape 58 = .ok (.invokevirtual 75, 3) := by decide +kernel
theorem dX5_readTape_61 : decode cX5_readTape 61 = .ok (.iconst 0, 1) := by decide +kernel
theorem dX5_readTape_62 : decode cX5_readTape 62 = .ok (.istore_n 3, 1) := by decide +kernel
theorem dX5_readTape_63 : decode cX5_readTape 63 = .ok (.iload_n 3, 1) := by decide +kernel
theorem dX5_readTape_64 : decode cX5_readTape 64 = .ok (.sipush 600, 3) := by decide +kernel
theorem dX5_readTape_67 : decode cX5_readTape 67 = .ok (.if_icmp .gt 29, 3) := by decide +kernel
theorem dX5_readTape_70 : decode cX5_readTape 70 = .ok (.aload_n 0, 1) := by decide +kernel
theorem dX5_readTape_71 : decode cX5_readTape 71 = .ok (.invokevirtual 76, 3) := by decide +kernel
theorem dX5_readTape_74 : decode cX5_readTape 74 = .ok (.aload_n 0, 1) := by decide +kernel
theorem dX5_readTape_75 : decode cX5_readTape 75 = .ok (.getfield 49, 3) := by decide +kernel
theorem dX5_readTape_78 : decode cX5_readTape 78 = .ok (.ifCond .eq 11, 3) := by decide +kernel
theorem dX5_readTape_81 : decode cX5_readTape 81 = .ok (.aload_n 0, 1) := by decide +kernel
theorem dX5_readTape_82 : decode cX5_readTape 82 = .ok (.iload_n 2, 1) := by decide +kernel
theorem dX5_readTape_83 : decode cX5_readTape 83 = .ok (.invokevirtual 79, 3) := by decide +kernel
theorem dX5_readTape_86 : decode cX5_readTape 86 = .ok (.ifCond .ne 4, 3) := by decide +kernel
theorem dX5_readTape_89 : decode cX5_readTape 89 = .ok (.return_, 1) := by decide +kernel
theorem dX5_readTape_90 : decode cX5_readTape 90 = .ok (.iinc 3 1, 3) := by decide +kernel
theorem dX5_readTape_93 : decode cX5_readTape 93 = .ok (.goto (-30), 3) := by decide +kernel
theorem dX5_readTape_96 : decode cX5_readTape 96 = .ok (.return_, 1) := by decide +kernel
theorem dX5_readLine_0 : decode cX5_readLine 0 = .ok (.aload_n 0, 1) := by decide +kernel
theorem dX5_readLine_1 : decode cX5_readLine 1 = .ok (.iload_n 1, 1) := by decide +kernel
theorem dX5_readLine_2 : decode cX5_readLine 2 = .ok (.invokevirtual 83, 3) := by decide +kernel
theorem dX5_readLine_5 : decode cX5_readLine 5 = .ok (.istore_n 2, 1) := by decide +kernel
theorem dX5_readLine_6 : decode cX5_readLine 6 = .ok (.iload_n 2, 1) := by decide +kernel
theorem dX5_readLine_7 : decode cX5_readLine 7 = .ok (.iconst (-1), 1) := by decide +kernel
theorem dX5_readLine_8 : decode cX5_readLine 8 = .ok (.if_icmp .ne 8, 3) := by decide +kernel
theorem dX5_readLine_11 : decode cX5_readLine 11 = .ok (.aload_n 0, 1) := by decide +kernel
theorem dX5_readLine_12 : decode cX5_readLine 12 = .ok (.invokevirtual 87, 3) := by decide +kernel
theorem dX5_readLine_15 : decode cX5_readLine 15 = .ok (.ireturn, 1) := by decide +kernel
theorem dX5_readLine_16 : decode cX5_readLine 16 = .ok (.aload_n 0, 1) := by decide +kernel
theorem dX5_readLine_17 : decode cX5_readLine 17 = .ok (.iload_n 2, 1) := by decide +kernel
theorem dX5_readLine_18 : decode cX5_readLine 18 = .ok (.invokevirtual 91, 3) := by decide +kernel
theorem dX5_readLine_21 : decode cX5_readLine 21 = .ok (.ifCond .eq 8, 3) := by decide +kernel
theorem dX5_readLine_24 : decode cX5_readLine 24 = .ok (.aload_n 0, 1) := by decide +kernel
theorem dX5_readLine_25 : decode cX5_readLine 25 = .ok (.iconst 3, 1) := by decide +kernel
theorem dX5_readLine_26 : decode cX5_readLine 26 = .ok (.invokevirtual 94, 3) := by decide +kernel
theorem dX5_readLine_29 : decode cX5_readLine 29 = .ok (.iconst 0, 1) := by decide +kernel
theorem dX5_readLine_30 : decode cX5_readLine 30 = .ok (.istore_n 3, 1) := by decide +kernel
theorem dX5_readLine_31 : decode cX5_readLine 31 = .ok (.iload_n 3, 1) := by decide +kernel
theorem dX5_readLine_32 : decode cX5_readLine 32 = .ok (.iload_n 2, 1) := by decide +kernel
theorem dX5_readLine_33 : decode cX5_readLine 33 = .ok (.invokestatic 98, 3) := by decide +kernel
theorem dX5_readLine_36 : decode cX5_readLine 36 = .ok (.if_icmp .ge 50, 3) := by decide +kernel
theorem dX5_readLine_39 : decode cX5_readLine 39 = .ok (.aload_n 0, 1) := by decide +kernel
theorem dX5_readLine_40 : decode cX5_readLine 40 = .ok (.invokevirtual 76, 3) := by decide +kernel
theorem dX5_readLine_43 : decode cX5_readLine 43 = .ok (.aload_n 0, 1) := by decide +kernel
theorem dX5_readLine_44 : decode cX5_readLine 44 = .ok (.getfield 49, 3) := by decide +kernel
theorem dX5_readLine_47 : decode cX5_readLine 47 = .ok (.iconst 2, 1) := by decide +kernel
theorem dX5_readLine_48 : decode cX5_readLine 48 = .ok (.if_icmp .eq 8, 3) := by decide +kernel
theorem dX5_readLine_51 : decode cX5_readLine 51 = .ok (.aload_n 0, 1) := by decide +kernel
theorem dX5_readLine_52 : decode cX5_readLine 52 = .ok (.invokevirtual 87, 3) := by decide +kernel
theorem dX5_readLine_55 : decode cX5_readLine 55 = .ok (.ireturn, 1) := by decide +kernel
theorem dX5_readLine_56 : decode cX5_readLine 56 = .ok (.aload_n 0, 1) := by decide +kernel
theorem dX5_readLine_57 : decode cX5_readLine 57 = .ok (.getfield 55, 3) := by decide +kernel
theorem dX5_readLine_60 : decode cX5_readLine 60 = .ok (.iload_n 3, 1) := by decide +kernel
theorem dX5_readLine_61 : decode cX5_readLine 61 = .ok (.aload_n 0, 1) := by decide +kernel
theorem dX5_readLine_62 : decode cX5_readLine 62 = .ok (.invokevirtual 101, 3) := by decide +kernel
theorem dX5_readLine_65 : decode cX5_readLine 65 = .ok (.iastore, 1) := by decide +kernel
theorem dX5_readLine_66 : decode cX5_readLine 66 = .ok (.aload_n 0, 1) := by decide +kernel
theorem dX5_readLine_67 : decode cX5_readLine 67 = .ok (.iload_n 2, 1) := by decide +kernel
theorem dX5_readLine_68 : decode cX5_readLine 68 = .ok (.iload_n 3, 1) := by decide +kernel
theorem dX5_readLine_69 : decode cX5_readLine 69 = .ok (.invokevirtual 105, 3) := by decide +kernel
theorem dX5_readLine_72 : decode cX5_readLine 72 = .ok (.ifCond .ne 8, 3) := by decide +kernel
theorem dX5_readLine_75 : decode cX5_readLine 75 = .ok (.aload_n 0, 1) := by decide +kernel
theorem dX5_readLine_76 : decode cX5_readLine 76 = .ok (.iconst 2, 1) := by decide +kernel
theorem dX5_readLine_77 : decode cX5_readLine 77 = .ok (.invokevirtual 94, 3) := by decide +kernel
theorem dX5_readLine_80 : decode cX5_readLine 80 = .ok (.iinc 3 1, 3) := by decide +kernel
theorem dX5_readLine_83 : decode cX5_readLine 83 = .ok (.goto (-52), 3) := by decide +kernel
theorem dX5_readLine_86 : decode cX5_readLine 86 = .ok (.aload_n 0, 1) := by decide +kernel
theorem dX5_readLine_87 : decode cX5_readLine 87 = .ok (.invokevirtual 76, 3) := by decide +kernel
theorem dX5_readLine_90 : decode cX5_readLine 90 = .ok (.aload_n 0, 1) := by decide +kernel
theorem dX5_readLine_91 : decode cX5_readLine 91 = .ok (.getfield 49, 3) := by decide +kernel
theorem dX5_readLine_94 : decode cX5_readLine 94 = .ok (.iconst 3, 1) := by decide +kernel
theorem dX5_readLine_95 : decode cX5_readLine 95 = .ok (.if_icmp .eq 8, 3) := by decide +kernel
theorem dX5_readLine_98 : decode cX5_readLine 98 = .ok (.aload_n 0, 1) := by decide +kernel
theorem dX5_readLine_99 : decode cX5_readLine 99 = .ok (.invokevirtual 87, 3) := by decide +kernel
theorem dX5_readLine_102 : decode cX5_readLine 102 = .ok (.ireturn, 1) := by decide +kernel
theorem dX5_readLine_103 : decode cX5_readLine 103 = .ok (.aload_n 0, 1) := by decide +kernel
theorem dX5_readLine_104 : decode cX5_readLine 104 = .ok (.iload_n 2, 1) := by decide +kernel
theorem dX5_readLine_105 : decode cX5_readLine 105 = .ok (.invokevirtual 109, 3) := by decide +kernel
theorem dX5_readLine_108 : decode cX5_readLine 108 = .ok (.iconst 1, 1) := by decide +kernel
theorem dX5_readLine_109 : decode cX5_readLine 109 = .ok (.ireturn, 1) := by decide +kernel
theorem dX5_refuse_0 : decode cX5_refuse 0 = .ok (.aload_n 0, 1) := by decide +kernel
theorem dX5_refuse_1 : decode cX5_refuse 1 = .ok (.iconst 1, 1) := by decide +kernel
theorem dX5_refuse_2 : decode cX5_refuse 2 = .ok (.putfield 32, 3) := by decide +kernel
theorem dX5_refuse_5 : decode cX5_refuse 5 = .ok (.aload_n 0, 1) := by decide +kernel
theorem dX5_refuse_6 : decode cX5_refuse 6 = .ok (.aload_n 0, 1) := by decide +kernel
theorem dX5_refuse_7 : decode cX5_refuse 7 = .ok (.getfield 52, 3) := by decide +kernel
theorem dX5_refuse_10 : decode cX5_refuse 10 = .ok (.putfield 36, 3) := by decide +kernel
theorem dX5_refuse_13 : decode cX5_refuse 13 = .ok (.iconst 0, 1) := by decide +kernel
theorem dX5_refuse_14 : decode cX5_refuse 14 = .ok (.ireturn, 1) := by decide +kernel
theorem dX5_blame_0 : decode cX5_blame 0 = .ok (.aload_n 0, 1) := by decide +kernel
theorem dX5_blame_1 : decode cX5_blame 1 = .ok (.getfield 32, 3) := by decide +kernel
theorem dX5_blame_4 : decode cX5_blame 4 = .ok (.ifCond .ne 16, 3) := by decide +kernel
theorem dX5_blame_7 : decode cX5_blame 7 = .ok (.aload_n 0, 1) := by decide +kernel
theorem dX5_blame_8 : decode cX5_blame 8 = .ok (.iload_n 1, 1) := by decide +kernel
theorem dX5_blame_9 : decode cX5_blame 9 = .ok (.putfield 32, 3) := by decide +kernel
theorem dX5_blame_12 : decode cX5_blame 12 = .ok (.aload_n 0, 1) := by decide +kernel
theorem dX5_blame_13 : decode cX5_blame 13 = .ok (.aload_n 0, 1) := by decide +kernel
theorem dX5_blame_14 : decode cX5_blame 14 = .ok (.getfield 52, 3) := by decide +kernel
theorem dX5_blame_17 : decode cX5_blame 17 = .ok (.putfield 36, 3) := by decide +kernel
theorem dX5_blame_20 : decode cX5_blame 20 = .ok (.return_, 1) := by decide +kernel
theorem dX5_nextToken_0 : decode cX5_nextToken 0 = .ok (.aload_n 0, 1) := by decide +kernel
theorem dX5_nextToken_1 : decode cX5_nextToken 1 = .ok (.getfield 46, 3) := by decide +kernel
theorem dX5_nextToken_4 : decode cX5_nextToken 4 = .ok (.aload_n 0, 1) := by decide +kernel
theorem dX5_nextToken_5 : decode cX5_nextToken 5 = .ok (.getfield 43, 3) := by decide +kernel
theorem dX5_nextToken_8 : decode cX5_nextToken 8 = .ok (.if_icmp .ge 30, 3) := by decide +kernel
theorem dX5_nextToken_11 : decode cX5_nextToken 11 = .ok (.aload_n 0, 1) := by decide +kernel
theorem dX5_nextToken_12 : decode cX5_nextToken 12 = .ok (.aload_n 0, 1) := by decide +kernel
theorem dX5_nextToken_13 : decode cX5_nextToken 13 = .ok (.getfield 46, 3) := by decide +kernel
theorem dX5_nextToken_16 : decode cX5_nextToken 16 = .ok (.invokevirtual 112, 3) := by decide +kernel
theorem dX5_nextToken_19 : decode cX5_nextToken 19 = .ok (.invokestatic 115, 3) := by decide +kernel
theorem dX5_nextToken_22 : decode cX5_nextToken 22 = .ok (.ifCond .eq 16, 3) := by decide +kernel
theorem dX5_nextToken_25 : decode cX5_nextToken 25 = .ok (.aload_n 0, 1) := by decide +kernel
theorem dX5_nextToken_26 : decode cX5_nextToken 26 = .ok (.dup, 1) := by decide +kernel
theorem dX5_nextToken_27 : decode cX5_nextToken 27 = .ok (.getfield 46, 3) := by decide +kernel
theorem dX5_nextToken_30 : decode cX5_nextToken 30 = .ok (.iconst 1, 1) := by decide +kernel
theorem dX5_nextToken_31 : decode cX5_nextToken 31 = .ok (.iadd, 1) := by decide +kernel
theorem dX5_nextToken_32 : decode cX5_nextToken 32 = .ok (.putfield 46, 3) := by decide +kernel
theorem dX5_nextToken_35 : decode cX5_nextToken 35 = .ok (.goto (-35), 3) := by decide +kernel
theorem dX5_nextToken_38 : decode cX5_nextToken 38 = .ok (.aload_n 0, 1) := by decide +kernel
theorem dX5_nextToken_39 : decode cX5_nextToken 39 = .ok (.aload_n 0, 1) := by decide +kernel
theorem dX5_nextToken_40 : decode cX5_nextToken 40 = .ok (.getfield 46, 3) := by decide +kernel
theorem dX5_nextToken_43 : decode cX5_nextToken 43 = .ok (.putfield 52, 3) := by decide +kernel
theorem dX5_nextToken_46 : decode cX5_nextToken 46 = .ok (.aload_n 0, 1) := by decide +kernel
theorem dX5_nextToken_47 : decode cX5_nextToken 47 = .ok (.aload_n 0, 1) := by decide +kernel
theorem dX5_nextToken_48 : decode cX5_nextToken 48 = .ok (.getfield 46, 3) := by decide +kernel
theorem dX5_nextToken_51 : decode cX5_nextToken 51 = .ok (.invokevirtual 112, 3) := by decide +kernel
theorem dX5_nextToken_54 : decode cX5_nextToken 54 = .ok (.istore_n 1, 1) := by decide +kernel
theorem dX5_nextToken_55 : decode cX5_nextToken 55 = .ok (.iload_n 1, 1) := by decide +kernel
theorem dX5_nextToken_56 : decode cX5_nextToken 56 = .ok (.iconst (-1), 1) := by decide +kernel
theorem dX5_nextToken_57 : decode cX5_nextToken 57 = .ok (.if_icmp .ne 11, 3) := by decide +kernel
theorem dX5_nextToken_60 : decode cX5_nextToken 60 = .ok (.aload_n 0, 1) := by decide +kernel
theorem dX5_nextToken_61 : decode cX5_nextToken 61 = .ok (.iconst 0, 1) := by decide +kernel
theorem dX5_nextToken_62 : decode cX5_nextToken 62 = .ok (.putfield 49, 3) := by decide +kernel
theorem dX5_nextToken_65 : decode cX5_nextToken 65 = .ok (.goto 152, 3) := by decide +kernel
theorem dX5_nextToken_68 : decode cX5_nextToken 68 = .ok (.iload_n 1, 1) := by decide +kernel
theorem dX5_nextToken_69 : decode cX5_nextToken 69 = .ok (.bipush 59, 2) := by decide +kernel
theorem dX5_nextToken_71 : decode cX5_nextToken 71 = .ok (.if_icmp .ne 21, 3) := by decide +kernel
theorem dX5_nextToken_74 : decode cX5_nextToken 74 = .ok (.aload_n 0, 1) := by decide +kernel
theorem dX5_nextToken_75 : decode cX5_nextToken 75 = .ok (.iconst 3, 1) := by decide +kernel
theorem dX5_nextToken_76 : decode cX5_nextToken 76 = .ok (.putfield 49, 3) := by decide +kernel
theorem dX5_nextToken_79 : decode cX5_nextToken 79 = .ok (.aload_n 0, 1) := by decide +kernel
theorem dX5_nextToken_80 : decode cX5_nextToken 80 = .ok (.dup, 1) := by decide +kernel
theorem dX5_nextToken_81 : decode cX5_nextToken 81 = .ok (.getfield 46, 3) := by decide +kernel
theorem dX5_nextToken_84 : decode cX5_nextToken 84 = .ok (.iconst 1, 1) := by decide +kernel
theorem dX5_nextToken_85 : decode cX5_nextToken 85 = .ok (.iadd, 1) := by decide +kernel
theorem dX5_nextToken_86 : decode cX5_nextToken 86 = .ok (.putfield 46, 3) := by decide +kernel
theorem dX5_nextToken_89 : decode cX5_nextToken 89 = .ok (.goto 128, 3) := by decide +kernel
theorem dX5_nextToken_92 : decode cX5_nextToken 92 = .ok (.iload_n 1, 1) := by decide +kernel
theorem dX5_nextToken_93 : decode cX5_nextToken 93 = .ok (.invokestatic 118, 3) := by decide +kernel
theorem dX5_nextToken_96 : decode cX5_nextToken 96 = .ok (.ifCond .eq 46, 3) := by decide +kernel
theorem dX5_nextToken_99 : decode cX5_nextToken 99 = .ok (.aload_n 0, 1) := by decide +kernel
theorem dX5_nextToken_100 : decode cX5_nextToken 100 = .ok (.iconst 1, 1) := by decide +kernel
theorem dX5_nextToken_101 : decode cX5_nextToken 101 = .ok (.putfield 49, 3) := by decide +kernel
theorem dX5_nextToken_104 : decode cX5_nextToken 104 = .ok (.aload_n 0, 1) := by decide +kernel
theorem dX5_nextToken_105 : decode cX5_nextToken 105 = .ok (.getfield 46, 3) := by decide +kernel
theorem dX5_nextToken_108 : decode cX5_nextToken 108 = .ok (.aload_n 0, 1) := by decide +kernel
theorem dX5_nextToken_109 : decode cX5_nextToken 109 = .ok (.getfield 43, 3) := by decide +kernel
theorem dX5_nextToken_112 : decode cX5_nextToken 112 = .ok (.if_icmp .ge 105, 3) := by decide +kernel
theorem dX5_nextToken_115 : decode cX5_nextToken 115 = .ok (.aload_n 0, 1) := by decide +kernel
theorem dX5_nextToken_116 : decode cX5_nextToken 116 = .ok (.aload_n 0, 1) := by decide +kernel
theorem dX5_nextToken_117 : decode cX5_nextToken 117 = .ok (.getfield 46, 3) := by decide +kernel
theorem dX5_nextToken_120 : decode cX5_nextToken 120 = .ok (.invokevirtual 112, 3) := by decide +kernel
theorem dX5_nextToken_123 : decode cX5_nextToken 123 = .ok (.invokestatic 118, 3) := by decide +kernel
theorem dX5_nextToken_126 : decode cX5_nextToken 126 = .ok (.ifCond .eq 91, 3) := by decide +kernel
theorem dX5_nextToken_129 : decode cX5_nextToken 129 = .ok (.aload_n 0, 1) := by decide +kernel
theorem dX5_nextToken_130 : decode cX5_nextToken 130 = .ok (.dup, 1) := by decide +kernel
theorem dX5_nextToken_131 : decode cX5_nextToken 131 = .ok (.getfield 46, 3) := by decide +kernel
theorem dX5_nextToken_134 : decode cX5_nextToken 134 = .ok (.iconst 1, 1) := by decide +kernel
theorem dX5_nextToken_135 : decode cX5_nextToken 135 = .ok (.iadd, 1) := by decide +kernel
theorem dX5_nextToken_136 : decode cX5_nextToken 136 = .ok (.putfield 46, 3) := by decide +kernel
theorem dX5_nextToken_139 : decode cX5_nextToken 139 = .ok (.goto (-35), 3) := by decide +kernel
theorem dX5_nextToken_142 : decode cX5_nextToken 142 = .ok (.iload_n 1, 1) := by decide +kernel
theorem dX5_nextToken_143 : decode cX5_nextToken 143 = .ok (.invokestatic 121, 3) := by decide +kernel
theorem dX5_nextToken_146 : decode cX5_nextToken 146 = .ok (.ifCond .eq 66, 3) := by decide +kernel
theorem dX5_nextToken_149 : decode cX5_nextToken 149 = .ok (.aload_n 0, 1) := by decide +kernel
theorem dX5_nextToken_150 : decode cX5_nextToken 150 = .ok (.getfield 46, 3) := by decide +kernel
theorem dX5_nextToken_153 : decode cX5_nextToken 153 = .ok (.aload_n 0, 1) := by decide +kernel
theorem dX5_nextToken_154 : decode cX5_nextToken 154 = .ok (.getfield 43, 3) := by decide +kernel
theorem dX5_nextToken_157 : decode cX5_nextToken 157 = .ok (.if_icmp .ge 30, 3) := by decide +kernel
theorem dX5_nextToken_160 : decode cX5_nextToken 160 = .ok (.aload_n 0, 1) := by decide +kernel
theorem dX5_nextToken_161 : decode cX5_nextToken 161 = .ok (.aload_n 0, 1) := by decide +kernel
theorem dX5_nextToken_162 : decode cX5_nextToken 162 = .ok (.getfield 46, 3) := by decide +kernel
theorem dX5_nextToken_165 : decode cX5_nextToken 165 = .ok (.invokevirtual 112, 3) := by decide +kernel
theorem dX5_nextToken_168 : decode cX5_nextToken 168 = .ok (.invokestatic 121, 3) := by decide +kernel
theorem dX5_nextToken_171 : decode cX5_nextToken 171 = .ok (.ifCond .eq 16, 3) := by decide +kernel
theorem dX5_nextToken_174 : decode cX5_nextToken 174 = .ok (.aload_n 0, 1) := by decide +kernel
theorem dX5_nextToken_175 : decode cX5_nextToken 175 = .ok (.dup, 1) := by decide +kernel
theorem dX5_nextToken_176 : decode cX5_nextToken 176 = .ok (.getfield 46, 3) := by decide +kernel
theorem dX5_nextToken_179 : decode cX5_nextToken 179 = .ok (.iconst 1, 1) := by decide +kernel
theorem dX5_nextToken_180 : decode cX5_nextToken 180 = .ok (.iadd, 1) := by decide +kernel
theorem dX5_nextToken_181 : decode cX5_nextToken 181 = .ok (.putfield 46, 3) := by decide +kernel
theorem dX5_nextToken_184 : decode cX5_nextToken 184 = .ok (.goto (-35), 3) := by decide +kernel
theorem dX5_nextToken_187 : decode cX5_nextToken 187 = .ok (.aload_n 0, 1) := by decide +kernel
theorem dX5_nextToken_188 : decode cX5_nextToken 188 = .ok (.aload_n 0, 1) := by decide +kernel
theorem dX5_nextToken_189 : decode cX5_nextToken 189 = .ok (.getfield 46, 3) := by decide +kernel
theorem dX5_nextToken_192 : decode cX5_nextToken 192 = .ok (.aload_n 0, 1) := by decide +kernel
theorem dX5_nextToken_193 : decode cX5_nextToken 193 = .ok (.getfield 52, 3) := by decide +kernel
theorem dX5_nextToken_196 : decode cX5_nextToken 196 = .ok (.isub, 1) := by decide +kernel
theorem dX5_nextToken_197 : decode cX5_nextToken 197 = .ok (.iconst 2, 1) := by decide +kernel
theorem dX5_nextToken_198 : decode cX5_nextToken 198 = .ok (.if_icmp .gt 7, 3) := by decide +kernel
theorem dX5_nextToken_201 : decode cX5_nextToken 201 = .ok (.iconst 2, 1) := by decide +kernel
theorem dX5_nextToken_202 : decode cX5_nextToken 202 = .ok (.goto 4, 3) := by decide +kernel
theorem dX5_nextToken_205 : decode cX5_nextToken 205 = .ok (.iconst 4, 1) := by decide +kernel
theorem dX5_nextToken_206 : decode cX5_nextToken 206 = .ok (.putfield 49, 3) := by decide +kernel
theorem dX5_nextToken_209 : decode cX5_nextToken 209 = .ok (.goto 8, 3) := by decide +kernel
theorem dX5_nextToken_212 : decode cX5_nextToken 212 = .ok (.aload_n 0, 1) := by decide +kernel
theorem dX5_nextToken_213 : decode cX5_nextToken 213 = .ok (.iconst 4, 1) := by decide +kernel
theorem dX5_nextToken_214 : decode cX5_nextToken 214 = .ok (.putfield 49, 3) := by decide +kernel
theorem dX5_nextToken_217 : decode cX5_nextToken 217 = .ok (.return_, 1) := by decide +kernel
theorem dX5_byteAt_0 : decode cX5_byteAt 0 = .ok (.iload_n 1, 1) := by decide +kernel
theorem dX5_byteAt_1 : decode cX5_byteAt 1 = .ok (.ifCond .lt 33, 3) := by decide +kernel
theorem dX5_byteAt_4 : decode cX5_byteAt 4 = .ok (.iload_n 1, 1) := by decide +kernel
theorem dX5_byteAt_5 : decode cX5_byteAt 5 = .ok (.aload_n 0, 1) := by decide +kernel
theorem dX5_byteAt_6 : decode cX5_byteAt 6 = .ok (.getfield 43, 3) := by decide +kernel
theorem dX5_byteAt_9 : decode cX5_byteAt 9 = .ok (.if_icmp .ge 25, 3) := by decide +kernel
theorem dX5_byteAt_12 : decode cX5_byteAt 12 = .ok (.iload_n 1, 1) := by decide +kernel
theorem dX5_byteAt_13 : decode cX5_byteAt 13 = .ok (.aload_n 0, 1) := by decide +kernel
theorem dX5_byteAt_14 : decode cX5_byteAt 14 = .ok (.getfield 39, 3) := by decide +kernel
theorem dX5_byteAt_17 : decode cX5_byteAt 17 = .ok (.arraylength, 1) := by decide +kernel
theorem dX5_byteAt_18 : decode cX5_byteAt 18 = .ok (.if_icmp .ge 16, 3) := by decide +kernel
theorem dX5_byteAt_21 : decode cX5_byteAt 21 = .ok (.aload_n 0, 1) := by decide +kernel
theorem dX5_byteAt_22 : decode cX5_byteAt 22 = .ok (.getfield 39, 3) := by decide +kernel
theorem dX5_byteAt_25 : decode cX5_byteAt 25 = .ok (.iload_n 1, 1) := by decide +kernel
theorem dX5_byteAt_26 : decode cX5_byteAt 26 = .ok (.baload, 1) := by decide +kernel
theorem dX5_byteAt_27 : decode cX5_byteAt 27 = .ok (.sipush 255, 3) := by decide +kernel
theorem dX5_byteAt_30 : decode cX5_byteAt 30 = .ok (.iand, 1) := by decide +kernel
theorem dX5_byteAt_31 : decode cX5_byteAt 31 = .ok (.goto 4, 3) := by decide +kernel
theorem dX5_byteAt_34 : decode cX5_byteAt 34 = .ok (.iconst (-1), 1) := by decide +kernel
theorem dX5_byteAt_35 : decode cX5_byteAt 35 = .ok (.ireturn, 1) := by decide +kernel
theorem dX5_isBlank_0 : decode cX5_isBlank 0 = .ok (.iload_n 0, 1) := by decide +kernel
theorem dX5_isBlank_1 : decode cX5_isBlank 1 = .ok (.bipush 10, 2) := by decide +kernel
theorem dX5_isBlank_3 : decode cX5_isBlank 3 = .ok (.if_icmp .eq 9, 3) := by decide +kernel
theorem dX5_isBlank_6 : decode cX5_isBlank 6 = .ok (.iload_n 0, 1) := by decide +kernel
theorem dX5_isBlank_7 : decode cX5_isBlank 7 = .ok (.bipush 32, 2) := by decide +kernel
theorem dX5_isBlank_9 : decode cX5_isBlank 9 = .ok (.if_icmp .ne 7, 3) := by decide +kernel
theorem dX5_isBlank_12 : decode cX5_isBlank 12 = .ok (.iconst 1, 1) := by decide +kernel
theorem dX5_isBlank_13 : decode cX5_isBlank 13 = .ok (.goto 4, 3) := by decide +kernel
theorem dX5_isBlank_16 : decode cX5_isBlank 16 = .ok (.iconst 0, 1) := by decide +kernel
theorem dX5_isBlank_17 : decode cX5_isBlank 17 = .ok (.ireturn, 1) := by decide +kernel
theorem dX5_isLetter_0 : decode cX5_isLetter 0 = .ok (.iload_n 0, 1) := by decide +kernel
theorem dX5_isLetter_1 : decode cX5_isLetter 1 = .ok (.bipush 97, 2) := by decide +kernel
theorem dX5_isLetter_3 : decode cX5_isLetter 3 = .ok (.if_icmp .lt 13, 3) := by decide +kernel
theorem dX5_isLetter_6 : decode cX5_isLetter 6 = .ok (.iload_n 0, 1) := by decide +kernel
theorem dX5_isLetter_7 : decode cX5_isLetter 7 = .ok (.bipush 122, 2) := by decide +kernel
theorem dX5_isLetter_9 : decode cX5_isLetter 9 = .ok (.if_icmp .gt 7, 3) := by decide +kernel
theorem dX5_isLetter_12 : decode cX5_isLetter 12 = .ok (.iconst 1, 1) := by decide +kernel
theorem dX5_isLetter_13 : decode cX5_isLetter 13 = .ok (.goto 4, 3) := by decide +kernel
theorem dX5_isLetter_16 : decode cX5_isLetter 16 = .ok (.iconst 0, 1) := by decide +kernel
theorem dX5_isLetter_17 : decode cX5_isLetter 17 = .ok (.ireturn, 1) := by decide +kernel
theorem dX5_isDigit_0 : decode cX5_isDigit 0 = .ok (.iload_n 0, 1) := by decide +kernel
theorem dX5_isDigit_1 : decode cX5_isDigit 1 = .ok (.bipush 48, 2) := by decide +kernel
theorem dX5_isDigit_3 : decode cX5_isDigit 3 = .ok (.if_icmp .lt 13, 3) := by decide +kernel
theorem dX5_isDigit_6 : decode cX5_isDigit 6 = .ok (.iload_n 0, 1) := by decide +kernel
theorem dX5_isDigit_7 : decode cX5_isDigit 7 = .ok (.bipush 57, 2) := by decide +kernel
theorem dX5_isDigit_9 : decode cX5_isDigit 9 = .ok (.if_icmp .gt 7, 3) := by decide +kernel
theorem dX5_isDigit_12 : decode cX5_isDigit 12 = .ok (.iconst 1, 1) := by decide +kernel
theorem dX5_isDigit_13 : decode cX5_isDigit 13 = .ok (.goto 4, 3) := by decide +kernel
theorem dX5_isDigit_16 : decode cX5_isDigit 16 = .ok (.iconst 0, 1) := by decide +kernel
theorem dX5_isDigit_17 : decode cX5_isDigit 17 = .ok (.ireturn, 1) := by decide +kernel
theorem dX5_numberRead_0 : decode cX5_numberRead 0 = .ok (.iconst 0, 1) := by decide +kernel
theorem dX5_numberRead_1 : decode cX5_numberRead 1 = .ok (.istore_n 1, 1) := by decide +kernel
theorem dX5_numberRead_2 : decode cX5_numberRead 2 = .ok (.aload_n 0, 1) := by decide +kernel
theorem dX5_numberRead_3 : decode cX5_numberRead 3 = .ok (.getfield 52, 3) := by decide +kernel
theorem dX5_numberRead_6 : decode cX5_numberRead 6 = .ok (.istore_n 2, 1) := by decide +kernel
theorem dX5_numberRead_7 : decode cX5_numberRead 7 = .ok (.iload_n 2, 1) := by decide +kernel
theorem dX5_numberRead_8 : decode cX5_numberRead 8 = .ok (.aload_n 0, 1) := by decide +kernel
theorem dX5_numberRead_9 : decode cX5_numberRead 9 = .ok (.getfield 46, 3) := by decide +kernel
theorem dX5_numberRead_12 : decode cX5_numberRead 12 = .ok (.if_icmp .ge 23, 3) := by decide +kernel
theorem dX5_numberRead_15 : decode cX5_numberRead 15 = .ok (.iload_n 1, 1) := by decide +kernel
theorem dX5_numberRead_16 : decode cX5_numberRead 16 = .ok (.bipush 10, 2) := by decide +kernel
theorem dX5_numberRead_18 : decode cX5_numberRead 18 = .ok (.imul, 1) := by decide +kernel
theorem dX5_numberRead_19 : decode cX5_numberRead 19 = .ok (.aload_n 0, 1) := by decide +kernel
theorem dX5_numberRead_20 : decode cX5_numberRead 20 = .ok (.iload_n 2, 1) := by decide +kernel
theorem dX5_numberRead_21 : decode cX5_numberRead 21 = .ok (.invokevirtual 112, 3) := by decide +kernel
theorem dX5_numberRead_24 : decode cX5_numberRead 24 = .ok (.iadd, 1) := by decide +kernel
theorem dX5_numberRead_25 : decode cX5_numberRead 25 = .ok (.bipush 48, 2) := by decide +kernel
theorem dX5_numberRead_27 : decode cX5_numberRead 27 = .ok (.isub, 1) := by decide +kernel
theorem dX5_numberRead_28 : decode cX5_numberRead 28 = .ok (.istore_n 1, 1) := by decide +kernel
theorem dX5_numberRead_29 : decode cX5_numberRead 29 = .ok (.iinc 2 1, 3) := by decide +kernel
theorem dX5_numberRead_32 : decode cX5_numberRead 32 = .ok (.goto (-25), 3) := by decide +kernel
theorem dX5_numberRead_35 : decode cX5_numberRead 35 = .ok (.iload_n 1, 1) := by decide +kernel
theorem dX5_numberRead_36 : decode cX5_numberRead 36 = .ok (.ireturn, 1) := by decide +kernel
theorem dX5_headOf_0 : decode cX5_headOf 0 = .ok (.aload_n 0, 1) := by decide +kernel
theorem dX5_headOf_1 : decode cX5_headOf 1 = .ok (.getfield 49, 3) := by decide +kernel
theorem dX5_headOf_4 : decode cX5_headOf 4 = .ok (.iconst 1, 1) := by decide +kernel
theorem dX5_headOf_5 : decode cX5_headOf 5 = .ok (.if_icmp .eq 5, 3) := by decide +kernel
theorem dX5_headOf_8 : decode cX5_headOf 8 = .ok (.iconst (-1), 1) := by decide +kernel
theorem dX5_headOf_9 : decode cX5_headOf 9 = .ok (.ireturn, 1) := by decide +kernel
theorem dX5_headOf_10 : decode cX5_headOf 10 = .ok (.iload_n 1, 1) := by decide +kernel
theorem dX5_headOf_11 : decode cX5_headOf 11 = .ok (.ifCond .ne 7, 3) := by decide +kernel
theorem dX5_headOf_14 : decode cX5_headOf 14 = .ok (.iconst 0, 1) := by decide +kernel
theorem dX5_headOf_15 : decode cX5_headOf 15 = .ok (.goto 14, 3) := by decide +kernel
theorem dX5_headOf_18 : decode cX5_headOf 18 = .ok (.iload_n 1, 1) := by decide +kernel
theorem dX5_headOf_19 : decode cX5_headOf 19 = .ok (.iconst 1, 1) := by decide +kernel
theorem dX5_headOf_20 : decode cX5_headOf 20 = .ok (.if_icmp .ne 7, 3) := by decide +kernel
theorem dX5_headOf_23 : decode cX5_headOf 23 = .ok (.iconst 3, 1) := by decide +kernel
theorem dX5_headOf_24 : decode cX5_headOf 24 = .ok (.goto 5, 3) := by decide +kernel
theorem dX5_headOf_27 : decode cX5_headOf 27 = .ok (.bipush 8, 2) := by decide +kernel
theorem dX5_headOf_29 : decode cX5_headOf 29 = .ok (.istore_n 2, 1) := by decide +kernel
theorem dX5_headOf_30 : decode cX5_headOf 30 = .ok (.iload_n 1, 1) := by decide +kernel
theorem dX5_headOf_31 : decode cX5_headOf 31 = .ok (.ifCond .ne 7, 3) := by decide +kernel
theorem dX5_headOf_34 : decode cX5_headOf 34 = .ok (.iconst 2, 1) := by decide +kernel
theorem dX5_headOf_35 : decode cX5_headOf 35 = .ok (.goto 15, 3) := by decide +kernel
theorem dX5_headOf_38 : decode cX5_headOf 38 = .ok (.iload_n 1, 1) := by decide +kernel
theorem dX5_headOf_39 : decode cX5_headOf 39 = .ok (.iconst 1, 1) := by decide +kernel
theorem dX5_headOf_40 : decode cX5_headOf 40 = .ok (.if_icmp .ne 8, 3) := by decide +kernel
theorem dX5_headOf_43 : decode cX5_headOf 43 = .ok (.bipush 7, 2) := by decide +kernel
theorem dX5_headOf_45 : decode cX5_headOf 45 = .ok (.goto 5, 3) := by decide +kernel
theorem dX5_headOf_48 : decode cX5_headOf 48 = .ok (.bipush 10, 2) := by decide +kernel
theorem dX5_headOf_50 : decode cX5_headOf 50 = .ok (.istore_n 3, 1) := by decide +kernel
theorem dX5_headOf_51 : decode cX5_headOf 51 = .ok (.iload_n 2, 1) := by decide +kernel
theorem dX5_headOf_52 : decode cX5_headOf 52 = .ok (.istore 4, 2) := by decide +kernel
theorem dX5_headOf_54 : decode cX5_headOf 54 = .ok (.iload 4, 2) := by decide +kernel
theorem dX5_headOf_56 : decode cX5_headOf 56 = .ok (.iload_n 3, 1) := by decide +kernel
theorem dX5_headOf_57 : decode cX5_headOf 57 = .ok (.if_icmp .gt 24, 3) := by decide +kernel
theorem dX5_headOf_60 : decode cX5_headOf 60 = .ok (.aload_n 0, 1) := by decide +kernel
theorem dX5_headOf_61 : decode cX5_headOf 61 = .ok (.iload 4, 2) := by decide +kernel
theorem dX5_headOf_63 : decode cX5_headOf 63 = .ok (.invokestatic 124, 3) := by decide +kernel
theorem dX5_headOf_66 : decode cX5_headOf 66 = .ok (.invokevirtual 128, 3) := by decide +kernel
theorem dX5_headOf_69 : decode cX5_headOf 69 = .ok (.ifCond .eq 6, 3) := by decide +kernel
theorem dX5_headOf_72 : decode cX5_headOf 72 = .ok (.iload 4, 2) := by decide +kernel
theorem dX5_headOf_74 : decode cX5_headOf 74 = .ok (.ireturn, 1) := by decide +kernel
theorem dX5_headOf_75 : decode cX5_headOf 75 = .ok (.iinc 4 1, 3) := by decide +kernel
theorem dX5_headOf_78 : decode cX5_headOf 78 = .ok (.goto (-24), 3) := by decide +kernel
theorem dX5_headOf_81 : decode cX5_headOf 81 = .ok (.iconst (-1), 1) := by decide +kernel
theorem dX5_headOf_82 : decode cX5_headOf 82 = .ok (.ireturn, 1) := by decide +kernel
theorem dX5_isWord_0 : decode cX5_isWord 0 = .ok (.aload_n 0, 1) := by decide +kernel
theorem dX5_isWord_1 : decode cX5_isWord 1 = .ok (.getfield 46, 3) := by decide +kernel
theorem dX5_isWord_4 : decode cX5_isWord 4 = .ok (.aload_n 0, 1) := by decide +kernel
theorem dX5_isWord_5 : decode cX5_isWord 5 = .ok (.getfield 52, 3) := by decide +kernel
theorem dX5_isWord_8 : decode cX5_isWord 8 = .ok (.isub, 1) := by decide +kernel
theorem dX5_isWord_9 : decode cX5_isWord 9 = .ok (.aload_n 1, 1) := by decide +kernel
theorem dX5_isWord_10 : decode cX5_isWord 10 = .ok (.invokevirtual 132, 3) := by decide +kernel
theorem dX5_isWord_13 : decode cX5_isWord 13 = .ok (.if_icmp .eq 5, 3) := by decide +kernel
theorem dX5_isWord_16 : decode cX5_isWord 16 = .ok (.iconst 0, 1) := by decide +kernel
theorem dX5_isWord_17 : decode cX5_isWord 17 = .ok (.ireturn, 1) := by decide +kernel
theorem dX5_isWord_18 : decode cX5_isWord 18 = .ok (.iconst 0, 1) := by decide +kernel
theorem dX5_isWord_19 : decode cX5_isWord 19 = .ok (.istore_n 2, 1) := by decide +kernel
theorem dX5_isWord_20 : decode cX5_isWord 20 = .ok (.iload_n 2, 1) := by decide +kernel
theorem dX5_isWord_21 : decode cX5_isWord 21 = .ok (.aload_n 1, 1) := by decide +kernel
theorem dX5_isWord_22 : decode cX5_isWord 22 = .ok (.invokevirtual 132, 3) := by decide +kernel
theorem dX5_isWord_25 : decode cX5_isWord 25 = .ok (.if_icmp .ge 29, 3) := by decide +kernel
theorem dX5_isWord_28 : decode cX5_isWord 28 = .ok (.aload_n 0, 1) := by decide +kernel
theorem dX5_isWord_29 : decode cX5_isWord 29 = .ok (.aload_n 0, 1) := by decide +kernel
theorem dX5_isWord_30 : decode cX5_isWord 30 = .ok (.getfield 52, 3) := by decide +kernel
theorem dX5_isWord_33 : decode cX5_isWord 33 = .ok (.iload_n 2, 1) := by decide +kernel
theorem dX5_isWord_34 : decode cX5_isWord 34 = .ok (.iadd, 1) := by decide +kernel
theorem dX5_isWord_35 : decode cX5_isWord 35 = .ok (.invokevirtual 112, 3) := by decide +kernel
theorem dX5_isWord_38 : decode cX5_isWord 38 = .ok (.aload_n 1, 1) := by decide +kernel
theorem dX5_isWord_39 : decode cX5_isWord 39 = .ok (.iload_n 2, 1) := by decide +kernel
theorem dX5_isWord_40 : decode cX5_isWord 40 = .ok (.invokevirtual 136, 3) := by decide +kernel
theorem dX5_isWord_43 : decode cX5_isWord 43 = .ok (.if_icmp .eq 5, 3) := by decide +kernel
theorem dX5_isWord_46 : decode cX5_isWord 46 = .ok (.iconst 0, 1) := by decide +kernel
theorem dX5_isWord_47 : decode cX5_isWord 47 = .ok (.ireturn, 1) := by decide +kernel
theorem dX5_isWord_48 : decode cX5_isWord 48 = .ok (.iinc 2 1, 3) := by decide +kernel
theorem dX5_isWord_51 : decode cX5_isWord 51 = .ok (.goto (-31), 3) := by decide +kernel
theorem dX5_isWord_54 : decode cX5_isWord 54 = .ok (.iconst 1, 1) := by decide +kernel
theorem dX5_isWord_55 : decode cX5_isWord 55 = .ok (.ireturn, 1) := by decide +kernel
theorem dX5_wordOf_0 : decode cX5_wordOf 0 = .ok (.iload_n 0, 1) := by decide +kernel
theorem dX5_wordOf_1 : decode cX5_wordOf 1 = .ok (.tableswitch 85 0 9 #[55, 58, 61, 64, 67, 70, 73, 76, 79, 82], 55) := by decide +kernel
theorem dX5_wordOf_56 : decode cX5_wordOf 56 = .ok (.ldc 140, 2) := by decide +kernel
theorem dX5_wordOf_58 : decode cX5_wordOf 58 = .ok (.areturn, 1) := by decide +kernel
theorem dX5_wordOf_59 : decode cX5_wordOf 59 = .ok (.ldc 142, 2) := by decide +kernel
theorem dX5_wordOf_61 : decode cX5_wordOf 61 = .ok (.areturn, 1) := by decide +kernel
theorem dX5_wordOf_62 : decode cX5_wordOf 62 = .ok (.ldc 144, 2) := by decide +kernel
theorem dX5_wordOf_64 : decode cX5_wordOf 64 = .ok (.areturn, 1) := by decide +kernel
theorem dX5_wordOf_65 : decode cX5_wordOf 65 = .ok (.ldc 146, 2) := by decide +kernel
theorem dX5_wordOf_67 : decode cX5_wordOf 67 = .ok (.areturn, 1) := by decide +kernel
theorem dX5_wordOf_68 : decode cX5_wordOf 68 = .ok (.ldc 148, 2) := by decide +kernel
theorem dX5_wordOf_70 : decode cX5_wordOf 70 = .ok (.areturn, 1) := by decide +kernel
theorem dX5_wordOf_71 : decode cX5_wordOf 71 = .ok (.ldc 150, 2) := by decide +kernel
theorem dX5_wordOf_73 : decode cX5_wordOf 73 = .ok (.areturn, 1) := by decide +kernel
theorem dX5_wordOf_74 : decode cX5_wordOf 74 = .ok (.ldc 152, 2) := by decide +kernel
theorem dX5_wordOf_76 : decode cX5_wordOf 76 = .ok (.areturn, 1) := by decide +kernel
theorem dX5_wordOf_77 : decode cX5_wordOf 77 = .ok (.ldc 154, 2) := by decide +kernel
theorem dX5_wordOf_79 : decode cX5_wordOf 79 = .ok (.areturn, 1) := by decide +kernel
theorem dX5_wordOf_80 : decode cX5_wordOf 80 = .ok (.ldc 156, 2) := by decide +kernel
theorem dX5_wordOf_82 : decode cX5_wordOf 82 = .ok (.areturn, 1) := by decide +kernel
theorem dX5_wordOf_83 : decode cX5_wordOf 83 = .ok (.ldc 158, 2) := by decide +kernel
theorem dX5_wordOf_85 : decode cX5_wordOf 85 = .ok (.areturn, 1) := by decide +kernel
theorem dX5_wordOf_86 : decode cX5_wordOf 86 = .ok (.ldc 160, 2) := by decide +kernel
theorem dX5_wordOf_88 : decode cX5_wordOf 88 = .ok (.areturn, 1) := by decide +kernel
theorem dX5_numbersOf_0 : decode cX5_numbersOf 0 = .ok (.iload_n 0, 1) := by decide +kernel
theorem dX5_numbersOf_1 : decode cX5_numbersOf 1 = .ok (.tableswitch 57 2 10 #[51, 55, 57, 57, 57, 57, 57, 53, 53], 51) := by decide +kernel
theorem dX5_numbersOf_52 : decode cX5_numbersOf 52 = .ok (.iconst 3, 1) := by decide +kernel
theorem dX5_numbersOf_53 : decode cX5_numbersOf 53 = .ok (.ireturn, 1) := by decide +kernel
theorem dX5_numbersOf_54 : decode cX5_numbersOf 54 = .ok (.iconst 2, 1) := by decide +kernel
theorem dX5_numbersOf_55 : decode cX5_numbersOf 55 = .ok (.ireturn, 1) := by decide +kernel
theorem dX5_numbersOf_56 : decode cX5_numbersOf 56 = .ok (.iconst 0, 1) := by decide +kernel
theorem dX5_numbersOf_57 : decode cX5_numbersOf 57 = .ok (.ireturn, 1) := by decide +kernel
theorem dX5_numbersOf_58 : decode cX5_numbersOf 58 = .ok (.iconst 1, 1) := by decide +kernel
theorem dX5_numbersOf_59 : decode cX5_numbersOf 59 = .ok (.ireturn, 1) := by decide +kernel
theorem dX5_isFull_0 : decode cX5_isFull 0 = .ok (.iload_n 1, 1) := by decide +kernel
theorem dX5_isFull_1 : decode cX5_isFull 1 = .ok (.tableswitch 96 0 10 #[59, 59, 61, 96, 96, 96, 96, 96, 59, 78, 78], 59) := by decide +kernel
theorem dX5_isFull_60 : decode cX5_isFull 60 = .ok (.iconst 0, 1) := by decide +kernel
theorem dX5_isFull_61 : decode cX5_isFull 61 = .ok (.ireturn, 1) := by decide +kernel
theorem dX5_isFull_62 : decode cX5_isFull 62 = .ok (.aload_n 0, 1) := by decide +kernel
theorem dX5_isFull_63 : decode cX5_isFull 63 = .ok (.getfield 12, 3) := by decide +kernel
theorem dX5_isFull_66 : decode cX5_isFull 66 = .ok (.getfield 162, 3) := by decide +kernel
theorem dX5_isFull_69 : decode cX5_isFull 69 = .ok (.iconst 5, 1) := by decide +kernel
theorem dX5_isFull_70 : decode cX5_isFull 70 = .ok (.if_icmp .lt 7, 3) := by decide +kernel
theorem dX5_isFull_73 : decode cX5_isFull 73 = .ok (.iconst 1, 1) := by decide +kernel
theorem dX5_isFull_74 : decode cX5_isFull 74 = .ok (.goto 4, 3) := by decide +kernel
theorem dX5_isFull_77 : decode cX5_isFull 77 = .ok (.iconst 0, 1) := by decide +kernel
theorem dX5_isFull_78 : decode cX5_isFull 78 = .ok (.ireturn, 1) := by decide +kernel
theorem dX5_isFull_79 : decode cX5_isFull 79 = .ok (.aload_n 0, 1) := by decide +kernel
theorem dX5_isFull_80 : decode cX5_isFull 80 = .ok (.getfield 28, 3) := by decide +kernel
theorem dX5_isFull_83 : decode cX5_isFull 83 = .ok (.getfield 165, 3) := by decide +kernel
theorem dX5_isFull_86 : decode cX5_isFull 86 = .ok (.bipush 8, 2) := by decide +kernel
theorem dX5_isFull_88 : decode cX5_isFull 88 = .ok (.if_icmp .lt 7, 3) := by decide +kernel
theorem dX5_isFull_91 : decode cX5_isFull 91 = .ok (.iconst 1, 1) := by decide +kernel
theorem dX5_isFull_92 : decode cX5_isFull 92 = .ok (.goto 4, 3) := by decide +kernel
theorem dX5_isFull_95 : decode cX5_isFull 95 = .ok (.iconst 0, 1) := by decide +kernel
theorem dX5_isFull_96 : decode cX5_isFull 96 = .ok (.ireturn, 1) := by decide +kernel
theorem dX5_isFull_97 : decode cX5_isFull 97 = .ok (.aload_n 0, 1) := by decide +kernel
theorem dX5_isFull_98 : decode cX5_isFull 98 = .ok (.getfield 21, 3) := by decide +kernel
theorem dX5_isFull_101 : decode cX5_isFull 101 = .ok (.getfield 72, 3) := by decide +kernel
theorem dX5_isFull_104 : decode cX5_isFull 104 = .ok (.bipush 40, 2) := by decide +kernel
theorem dX5_isFull_106 : decode cX5_isFull 106 = .ok (.if_icmp .lt 7, 3) := by decide +kernel
theorem dX5_isFull_109 : decode cX5_isFull 109 = .ok (.iconst 1, 1) := by decide +kernel
theorem dX5_isFull_110 : decode cX5_isFull 110 = .ok (.goto 4, 3) := by decide +kernel
theorem dX5_isFull_113 : decode cX5_isFull 113 = .ok (.iconst 0, 1) := by decide +kernel
theorem dX5_isFull_114 : decode cX5_isFull 114 = .ok (.ireturn, 1) := by decide +kernel
theorem dX5_canBe_0 : decode cX5_canBe 0 = .ok (.aload_n 0, 1) := by decide +kernel
theorem dX5_canBe_1 : decode cX5_canBe 1 = .ok (.getfield 55, 3) := by decide +kernel
theorem dX5_canBe_4 : decode cX5_canBe 4 = .ok (.iload_n 2, 1) := by decide +kernel
theorem dX5_canBe_5 : decode cX5_canBe 5 = .ok (.iaload, 1) := by decide +kernel
theorem dX5_canBe_6 : decode cX5_canBe 6 = .ok (.istore_n 3, 1) := by decide +kernel
theorem dX5_canBe_7 : decode cX5_canBe 7 = .ok (.iload_n 1, 1) := by decide +kernel
theorem dX5_canBe_8 : decode cX5_canBe 8 = .ok (.tableswitch 135 0 10 #[60, 77, 89, 135, 135, 135, 135, 135, 124, 95, 95], 60) := by decide +kernel
theorem dX5_canBe_68 : decode cX5_canBe 68 = .ok (.iload_n 3, 1) := by decide +kernel
theorem dX5_canBe_69 : decode cX5_canBe 69 = .ok (.iconst 1, 1) := by decide +kernel
theorem dX5_canBe_70 : decode cX5_canBe 70 = .ok (.if_icmp .lt 13, 3) := by decide +kernel
theorem dX5_canBe_73 : decode cX5_canBe 73 = .ok (.iload_n 3, 1) := by decide +kernel
theorem dX5_canBe_74 : decode cX5_canBe 74 = .ok (.bipush 9, 2) := by decide +kernel
theorem dX5_canBe_76 : decode cX5_canBe 76 = .ok (.if_icmp .gt 7, 3) := by decide +kernel
theorem dX5_canBe_79 : decode cX5_canBe 79 = .ok (.iconst 1, 1) := by decide +kernel
theorem dX5_canBe_80 : decode cX5_canBe 80 = .ok (.goto 4, 3) := by decide +kernel
theorem dX5_canBe_83 : decode cX5_canBe 83 = .ok (.iconst 0, 1) := by decide +kernel
theorem dX5_canBe_84 : decode cX5_canBe 84 = .ok (.ireturn, 1) := by decide +kernel
theorem dX5_canBe_85 : decode cX5_canBe 85 = .ok (.iload_n 3, 1) := by decide +kernel
theorem dX5_canBe_86 : decode cX5_canBe 86 = .ok (.bipush 10, 2) := by decide +kernel
theorem dX5_canBe_88 : decode cX5_canBe 88 = .ok (.if_icmp .ge 7, 3) := by decide +kernel
theorem dX5_canBe_91 : decode cX5_canBe 91 = .ok (.iconst 1, 1) := by decide +kernel
theorem dX5_canBe_92 : decode cX5_canBe 92 = .ok (.goto 4, 3) := by decide +kernel
theorem dX5_canBe_95 : decode cX5_canBe 95 = .ok (.iconst 0, 1) := by decide +kernel
theorem dX5_canBe_96 : decode cX5_canBe 96 = .ok (.ireturn, 1) := by decide +kernel
theorem dX5_canBe_97 : decode cX5_canBe 97 = .ok (.aload_n 0, 1) := by decide +kernel
theorem dX5_canBe_98 : decode cX5_canBe 98 = .ok (.iload_n 2, 1) := by decide +kernel
theorem dX5_canBe_99 : decode cX5_canBe 99 = .ok (.invokevirtual 168, 3) := by decide +kernel
theorem dX5_canBe_102 : decode cX5_canBe 102 = .ok (.ireturn, 1) := by decide +kernel
theorem dX5_canBe_103 : decode cX5_canBe 103 = .ok (.iload_n 2, 1) := by decide +kernel
theorem dX5_canBe_104 : decode cX5_canBe 104 = .ok (.ifCond .ne 16, 3) := by decide +kernel
theorem dX5_canBe_107 : decode cX5_canBe 107 = .ok (.iload_n 3, 1) := by decide +kernel
theorem dX5_canBe_108 : decode cX5_canBe 108 = .ok (.iconst 5, 1) := by decide +kernel
theorem dX5_canBe_109 : decode cX5_canBe 109 = .ok (.if_icmp .ge 7, 3) := by decide +kernel
theorem dX5_canBe_112 : decode cX5_canBe 112 = .ok (.iconst 1, 1) := by decide +kernel
theorem dX5_canBe_113 : decode cX5_canBe 113 = .ok (.goto 18, 3) := by decide +kernel
theorem dX5_canBe_116 : decode cX5_canBe 116 = .ok (.iconst 0, 1) := by decide +kernel
theorem dX5_canBe_117 : decode cX5_canBe 117 = .ok (.goto 14, 3) := by decide +kernel
theorem dX5_canBe_120 : decode cX5_canBe 120 = .ok (.iload_n 3, 1) := by decide +kernel
theorem dX5_canBe_121 : decode cX5_canBe 121 = .ok (.bipush 30, 2) := by decide +kernel
theorem dX5_canBe_123 : decode cX5_canBe 123 = .ok (.if_icmp .gt 7, 3) := by decide +kernel
theorem dX5_canBe_126 : decode cX5_canBe 126 = .ok (.iconst 1, 1) := by decide +kernel
theorem dX5_canBe_127 : decode cX5_canBe 127 = .ok (.goto 4, 3) := by decide +kernel
theorem dX5_canBe_130 : decode cX5_canBe 130 = .ok (.iconst 0, 1) := by decide +kernel
theorem dX5_canBe_131 : decode cX5_canBe 131 = .ok (.ireturn, 1) := by decide +kernel
theorem dX5_canBe_132 : decode cX5_canBe 132 = .ok (.iload_n 3, 1) := by decide +kernel
theorem dX5_canBe_133 : decode cX5_canBe 133 = .ok (.iconst 4, 1) := by decide +kernel
theorem dX5_canBe_134 : decode cX5_canBe 134 = .ok (.if_icmp .gt 7, 3) := by decide +kernel
theorem dX5_canBe_137 : decode cX5_canBe 137 = .ok (.iconst 1, 1) := by decide +kernel
theorem dX5_canBe_138 : decode cX5_canBe 138 = .ok (.goto 4, 3) := by decide +kernel
theorem dX5_canBe_141 : decode cX5_canBe 141 = .ok (.iconst 0, 1) := by decide +kernel
theorem dX5_canBe_142 : decode cX5_canBe 142 = .ok (.ireturn, 1) := by decide +kernel
theorem dX5_canBe_143 : decode cX5_canBe 143 = .ok (.iload_n 3, 1) := by decide +kernel
theorem dX5_canBe_144 : decode cX5_canBe 144 = .ok (.iconst 5, 1) := by decide +kernel
theorem dX5_canBe_145 : decode cX5_canBe 145 = .ok (.if_icmp .ge 7, 3) := by decide +kernel
theorem dX5_canBe_148 : decode cX5_canBe 148 = .ok (.iconst 1, 1) := by decide +kernel
theorem dX5_canBe_149 : decode cX5_canBe 149 = .ok (.goto 4, 3) := by decide +kernel
theorem dX5_canBe_152 : decode cX5_canBe 152 = .ok (.iconst 0, 1) := by decide +kernel
theorem dX5_canBe_153 : decode cX5_canBe 153 = .ok (.ireturn, 1) := by decide +kernel
theorem dX5_canBeOfPlate_0 : decode cX5_canBeOfPlate 0 = .ok (.iload_n 1, 1) := by decide +kernel
theorem dX5_canBeOfPlate_1 : decode cX5_canBeOfPlate 1 = .ok (.lookupswitch 71 #[(0, 27), (1, 44)], 27) := by decide +kernel
theorem dX5_canBeOfPlate_28 : decode cX5_canBeOfPlate 28 = .ok (.aload_n 0, 1) := by decide +kernel
theorem dX5_canBeOfPlate_29 : decode cX5_canBeOfPlate 29 = .ok (.getfield 55, 3) := by decide +kernel
theorem dX5_canBeOfPlate_32 : decode cX5_canBeOfPlate 32 = .ok (.iconst 0, 1) := by decide +kernel
theorem dX5_canBeOfPlate_33 : decode cX5_canBeOfPlate 33 = .ok (.iaload, 1) := by decide +kernel
theorem dX5_canBeOfPlate_34 : decode cX5_canBeOfPlate 34 = .ok (.bipush 10, 2) := by decide +kernel
theorem dX5_canBeOfPlate_36 : decode cX5_canBeOfPlate 36 = .ok (.if_icmp .ge 7, 3) := by decide +kernel
theorem dX5_canBeOfPlate_39 : decode cX5_canBeOfPlate 39 = .ok (.iconst 1, 1) := by decide +kernel
theorem dX5_canBeOfPlate_40 : decode cX5_canBeOfPlate 40 = .ok (.goto 4, 3) := by decide +kernel
theorem dX5_canBeOfPlate_43 : decode cX5_canBeOfPlate 43 = .ok (.iconst 0, 1) := by decide +kernel
theorem dX5_canBeOfPlate_44 : decode cX5_canBeOfPlate 44 = .ok (.ireturn, 1) := by decide +kernel
theorem dX5_canBeOfPlate_45 : decode cX5_canBeOfPlate 45 = .ok (.aload_n 0, 1) := by decide +kernel
theorem dX5_canBeOfPlate_46 : decode cX5_canBeOfPlate 46 = .ok (.getfield 55, 3) := by decide +kernel
theorem dX5_canBeOfPlate_49 : decode cX5_canBeOfPlate 49 = .ok (.iconst 1, 1) := by decide +kernel
theorem dX5_canBeOfPlate_50 : decode cX5_canBeOfPlate 50 = .ok (.iaload, 1) := by decide +kernel
theorem dX5_canBeOfPlate_51 : decode cX5_canBeOfPlate 51 = .ok (.iconst 1, 1) := by decide +kernel
theorem dX5_canBeOfPlate_52 : decode cX5_canBeOfPlate 52 = .ok (.if_icmp .lt 18, 3) := by decide +kernel
theorem dX5_canBeOfPlate_55 : decode cX5_canBeOfPlate 55 = .ok (.aload_n 0, 1) := by decide +kernel
theorem dX5_canBeOfPlate_56 : decode cX5_canBeOfPlate 56 = .ok (.getfield 55, 3) := by decide +kernel
theorem dX5_canBeOfPlate_59 : decode cX5_canBeOfPlate 59 = .ok (.iconst 1, 1) := by decide +kernel
theorem dX5_canBeOfPlate_60 : decode cX5_canBeOfPlate 60 = .ok (.iaload, 1) := by decide +kernel
theorem dX5_canBeOfPlate_61 : decode cX5_canBeOfPlate 61 = .ok (.bipush 6, 2) := by decide +kernel
theorem dX5_canBeOfPlate_63 : decode cX5_canBeOfPlate 63 = .ok (.if_icmp .gt 7, 3) := by decide +kernel
theorem dX5_canBeOfPlate_66 : decode cX5_canBeOfPlate 66 = .ok (.iconst 1, 1) := by decide +kernel
theorem dX5_canBeOfPlate_67 : decode cX5_canBeOfPlate 67 = .ok (.goto 4, 3) := by decide +kernel
theorem dX5_canBeOfPlate_70 : decode cX5_canBeOfPlate 70 = .ok (.iconst 0, 1) := by decide +kernel
theorem dX5_canBeOfPlate_71 : decode cX5_canBeOfPlate 71 = .ok (.ireturn, 1) := by decide +kernel
theorem dX5_canBeOfPlate_72 : decode cX5_canBeOfPlate 72 = .ok (.aload_n 0, 1) := by decide +kernel
theorem dX5_canBeOfPlate_73 : decode cX5_canBeOfPlate 73 = .ok (.getfield 55, 3) := by decide +kernel
theorem dX5_canBeOfPlate_76 : decode cX5_canBeOfPlate 76 = .ok (.iconst 2, 1) := by decide +kernel
theorem dX5_canBeOfPlate_77 : decode cX5_canBeOfPlate 77 = .ok (.iaload, 1) := by decide +kernel
theorem dX5_canBeOfPlate_78 : decode cX5_canBeOfPlate 78 = .ok (.iconst 1, 1) := by decide +kernel
theorem dX5_canBeOfPlate_79 : decode cX5_canBeOfPlate 79 = .ok (.if_icmp .lt 33, 3) := by decide +kernel
theorem dX5_canBeOfPlate_82 : decode cX5_canBeOfPlate 82 = .ok (.aload_n 0, 1) := by decide +kernel
theorem dX5_canBeOfPlate_83 : decode cX5_canBeOfPlate 83 = .ok (.getfield 55, 3) := by decide +kernel
theorem dX5_canBeOfPlate_86 : decode cX5_canBeOfPlate 86 = .ok (.iconst 2, 1) := by decide +kernel
theorem dX5_canBeOfPlate_87 : decode cX5_canBeOfPlate 87 = .ok (.iaload, 1) := by decide +kernel
theorem dX5_canBeOfPlate_88 : decode cX5_canBeOfPlate 88 = .ok (.bipush 6, 2) := by decide +kernel
theorem dX5_canBeOfPlate_90 : decode cX5_canBeOfPlate 90 = .ok (.if_icmp .gt 22, 3) := by decide +kernel
theorem dX5_canBeOfPlate_93 : decode cX5_canBeOfPlate 93 = .ok (.aload_n 0, 1) := by decide +kernel
theorem dX5_canBeOfPlate_94 : decode cX5_canBeOfPlate 94 = .ok (.getfield 55, 3) := by decide +kernel
theorem dX5_canBeOfPlate_97 : decode cX5_canBeOfPlate 97 = .ok (.iconst 2, 1) := by decide +kernel
theorem dX5_canBeOfPlate_98 : decode cX5_canBeOfPlate 98 = .ok (.iaload, 1) := by decide +kernel
theorem dX5_canBeOfPlate_99 : decode cX5_canBeOfPlate 99 = .ok (.aload_n 0, 1) := by decide +kernel
theorem dX5_canBeOfPlate_100 : decode cX5_canBeOfPlate 100 = .ok (.getfield 55, 3) := by decide +kernel
theorem dX5_canBeOfPlate_103 : decode cX5_canBeOfPlate 103 = .ok (.iconst 1, 1) := by decide +kernel
theorem dX5_canBeOfPlate_104 : decode cX5_canBeOfPlate 104 = .ok (.iaload, 1) := by decide +kernel
theorem dX5_canBeOfPlate_105 : decode cX5_canBeOfPlate 105 = .ok (.if_icmp .gt 7, 3) := by decide +kernel
theorem dX5_canBeOfPlate_108 : decode cX5_canBeOfPlate 108 = .ok (.iconst 1, 1) := by decide +kernel
theorem dX5_canBeOfPlate_109 : decode cX5_canBeOfPlate 109 = .ok (.goto 4, 3) := by decide +kernel
theorem dX5_canBeOfPlate_112 : decode cX5_canBeOfPlate 112 = .ok (.iconst 0, 1) := by decide +kernel
theorem dX5_canBeOfPlate_113 : decode cX5_canBeOfPlate 113 = .ok (.ireturn, 1) := by decide +kernel
theorem dX5_tell_0 : decode cX5_tell 0 = .ok (.iload_n 1, 1) := by decide +kernel
theorem dX5_tell_1 : decode cX5_tell 1 = .ok (.tableswitch 193 0 10 #[59, 75, 91, 181, 193, 193, 193, 193, 119, 135, 158], 59) := by decide +kernel
theorem dX5_tell_60 : decode cX5_tell 60 = .ok (.aload_n 0, 1) := by decide +kernel
theorem dX5_tell_61 : decode cX5_tell 61 = .ok (.getfield 12, 3) := by decide +kernel
theorem dX5_tell_64 : decode cX5_tell 64 = .ok (.aload_n 0, 1) := by decide +kernel
theorem dX5_tell_65 : decode cX5_tell 65 = .ok (.getfield 55, 3) := by decide +kernel
theorem dX5_tell_68 : decode cX5_tell 68 = .ok (.iconst 0, 1) := by decide +kernel
theorem dX5_tell_69 : decode cX5_tell 69 = .ok (.iaload, 1) := by decide +kernel
theorem dX5_tell_70 : decode cX5_tell 70 = .ok (.putfield 171, 3) := by decide +kernel
theorem dX5_tell_73 : decode cX5_tell 73 = .ok (.goto 137, 3) := by decide +kernel
theorem dX5_tell_76 : decode cX5_tell 76 = .ok (.aload_n 0, 1) := by decide +kernel
theorem dX5_tell_77 : decode cX5_tell 77 = .ok (.getfield 12, 3) := by decide +kernel
theorem dX5_tell_80 : decode cX5_tell 80 = .ok (.aload_n 0, 1) := by decide +kernel
theorem dX5_tell_81 : decode cX5_tell 81 = .ok (.getfield 55, 3) := by decide +kernel
theorem dX5_tell_84 : decode cX5_tell 84 = .ok (.iconst 0, 1) := by decide +kernel
theorem dX5_tell_85 : decode cX5_tell 85 = .ok (.iaload, 1) := by decide +kernel
theorem dX5_tell_86 : decode cX5_tell 86 = .ok (.putfield 173, 3) := by decide +kernel
theorem dX5_tell_89 : decode cX5_tell 89 = .ok (.goto 121, 3) := by decide +kernel
theorem dX5_tell_92 : decode cX5_tell 92 = .ok (.aload_n 0, 1) := by decide +kernel
theorem dX5_tell_93 : decode cX5_tell 93 = .ok (.getfield 12, 3) := by decide +kernel
theorem dX5_tell_96 : decode cX5_tell 96 = .ok (.aload_n 0, 1) := by decide +kernel
theorem dX5_tell_97 : decode cX5_tell 97 = .ok (.getfield 55, 3) := by decide +kernel
theorem dX5_tell_100 : decode cX5_tell 100 = .ok (.iconst 0, 1) := by decide +kernel
theorem dX5_tell_101 : decode cX5_tell 101 = .ok (.iaload, 1) := by decide +kernel
theorem dX5_tell_102 : decode cX5_tell 102 = .ok (.aload_n 0, 1) := by decide +kernel
theorem dX5_tell_103 : decode cX5_tell 103 = .ok (.getfield 55, 3) := by decide +kernel
theorem dX5_tell_106 : decode cX5_tell 106 = .ok (.iconst 1, 1) := by decide +kernel
theorem dX5_tell_107 : decode cX5_tell 107 = .ok (.iaload, 1) := by decide +kernel
theorem dX5_tell_108 : decode cX5_tell 108 = .ok (.aload_n 0, 1) := by decide +kernel
theorem dX5_tell_109 : decode cX5_tell 109 = .ok (.getfield 55, 3) := by decide +kernel
theorem dX5_tell_112 : decode cX5_tell 112 = .ok (.iconst 2, 1) := by decide +kernel
theorem dX5_tell_113 : decode cX5_tell 113 = .ok (.iaload, 1) := by decide +kernel
theorem dX5_tell_114 : decode cX5_tell 114 = .ok (.invokevirtual 175, 3) := by decide +kernel
theorem dX5_tell_117 : decode cX5_tell 117 = .ok (.goto 93, 3) := by decide +kernel
theorem dX5_tell_120 : decode cX5_tell 120 = .ok (.aload_n 0, 1) := by decide +kernel
theorem dX5_tell_121 : decode cX5_tell 121 = .ok (.getfield 28, 3) := by decide +kernel
theorem dX5_tell_124 : decode cX5_tell 124 = .ok (.aload_n 0, 1) := by decide +kernel
theorem dX5_tell_125 : decode cX5_tell 125 = .ok (.getfield 55, 3) := by decide +kernel
theorem dX5_tell_128 : decode cX5_tell 128 = .ok (.iconst 0, 1) := by decide +kernel
theorem dX5_tell_129 : decode cX5_tell 129 = .ok (.iaload, 1) := by decide +kernel
theorem dX5_tell_130 : decode cX5_tell 130 = .ok (.putfield 179, 3) := by decide +kernel
theorem dX5_tell_133 : decode cX5_tell 133 = .ok (.goto 77, 3) := by decide +kernel
theorem dX5_tell_136 : decode cX5_tell 136 = .ok (.aload_n 0, 1) := by decide +kernel
theorem dX5_tell_137 : decode cX5_tell 137 = .ok (.getfield 28, 3) := by decide +kernel
theorem dX5_tell_140 : decode cX5_tell 140 = .ok (.iconst 1, 1) := by decide +kernel
theorem dX5_tell_141 : decode cX5_tell 141 = .ok (.aload_n 0, 1) := by decide +kernel
theorem dX5_tell_142 : decode cX5_tell 142 = .ok (.getfield 55, 3) := by decide +kernel
theorem dX5_tell_145 : decode cX5_tell 145 = .ok (.iconst 0, 1) := by decide +kernel
theorem dX5_tell_146 : decode cX5_tell 146 = .ok (.iaload, 1) := by decide +kernel
theorem dX5_tell_147 : decode cX5_tell 147 = .ok (.aload_n 0, 1) := by decide +kernel
theorem dX5_tell_148 : decode cX5_tell 148 = .ok (.getfield 55, 3) := by decide +kernel
theorem dX5_tell_151 : decode cX5_tell 151 = .ok (.iconst 1, 1) := by decide +kernel
theorem dX5_tell_152 : decode cX5_tell 152 = .ok (.iaload, 1) := by decide +kernel
theorem dX5_tell_153 : decode cX5_tell 153 = .ok (.invokevirtual 181, 3) := by decide +kernel
theorem dX5_tell_156 : decode cX5_tell 156 = .ok (.goto 54, 3) := by decide +kernel
theorem dX5_tell_159 : decode cX5_tell 159 = .ok (.aload_n 0, 1) := by decide +kernel
theorem dX5_tell_160 : decode cX5_tell 160 = .ok (.getfield 28, 3) := by decide +kernel
theorem dX5_tell_163 : decode cX5_tell 163 = .ok (.iconst 0, 1) := by decide +kernel
theorem dX5_tell_164 : decode cX5_tell 164 = .ok (.aload_n 0, 1) := by decide +kernel
theorem dX5_tell_165 : decode cX5_tell 165 = .ok (.getfield 55, 3) := by decide +kernel
theorem dX5_tell_168 : decode cX5_tell 168 = .ok (.iconst 0, 1) := by decide +kernel
theorem dX5_tell_169 : decode cX5_tell 169 = .ok (.iaload, 1) := by decide +kernel
theorem dX5_tell_170 : decode cX5_tell 170 = .ok (.aload_n 0, 1) := by decide +kernel
theorem dX5_tell_171 : decode cX5_tell 171 = .ok (.getfield 55, 3) := by decide +kernel
theorem dX5_tell_174 : decode cX5_tell 174 = .ok (.iconst 1, 1) := by decide +kernel
theorem dX5_tell_175 : decode cX5_tell 175 = .ok (.iaload, 1) := by decide +kernel
theorem dX5_tell_176 : decode cX5_tell 176 = .ok (.invokevirtual 181, 3) := by decide +kernel
theorem dX5_tell_179 : decode cX5_tell 179 = .ok (.goto 31, 3) := by decide +kernel
theorem dX5_tell_182 : decode cX5_tell 182 = .ok (.aload_n 0, 1) := by decide +kernel
theorem dX5_tell_183 : decode cX5_tell 183 = .ok (.getfield 21, 3) := by decide +kernel
theorem dX5_tell_186 : decode cX5_tell 186 = .ok (.iconst 0, 1) := by decide +kernel
theorem dX5_tell_187 : decode cX5_tell 187 = .ok (.iconst (-1), 1) := by decide +kernel
theorem dX5_tell_188 : decode cX5_tell 188 = .ok (.invokevirtual 182, 3) := by decide +kernel
theorem dX5_tell_191 : decode cX5_tell 191 = .ok (.goto 19, 3) := by decide +kernel
theorem dX5_tell_194 : decode cX5_tell 194 = .ok (.aload_n 0, 1) := by decide +kernel
theorem dX5_tell_195 : decode cX5_tell 195 = .ok (.getfield 21, 3) := by decide +kernel
theorem dX5_tell_198 : decode cX5_tell 198 = .ok (.iload_n 1, 1) := by decide +kernel
theorem dX5_tell_199 : decode cX5_tell 199 = .ok (.iconst 3, 1) := by decide +kernel
theorem dX5_tell_200 : decode cX5_tell 200 = .ok (.isub, 1) := by decide +kernel
theorem dX5_tell_201 : decode cX5_tell 201 = .ok (.aload_n 0, 1) := by decide +kernel
theorem dX5_tell_202 : decode cX5_tell 202 = .ok (.getfield 55, 3) := by decide +kernel
theorem dX5_tell_205 : decode cX5_tell 205 = .ok (.iconst 0, 1) := by decide +kernel
theorem dX5_tell_206 : decode cX5_tell 206 = .ok (.iaload, 1) := by decide +kernel
theorem dX5_tell_207 : decode cX5_tell 207 = .ok (.invokevirtual 182, 3) := by decide +kernel
theorem dX5_tell_210 : decode cX5_tell 210 = .ok (.return_, 1) := by decide +kernel
theorem dX6_init_0 : decode cX6_init 0 = .ok (.aload_n 0, 1) := by decide +kernel
theorem dX6_init_1 : decode cX6_init 1 = .ok (.invokespecial 3, 3) := by decide +kernel
theorem dX6_init_4 : decode cX6_init 4 = .ok (.aload_n 0, 1) := by decide +kernel
theorem dX6_init_5 : decode cX6_init 5 = .ok (.iconst 0, 1) := by decide +kernel
theorem dX6_init_6 : decode cX6_init 6 = .ok (.putfield 9, 3) := by decide +kernel
theorem dX6_init_9 : decode cX6_init 9 = .ok (.aload_n 0, 1) := by decide +kernel
theorem dX6_init_10 : decode cX6_init 10 = .ok (.bipush (-2), 2) := by decide +kernel
theorem dX6_init_12 : decode cX6_init 12 = .ok (.putfield 15, 3) := by decide +kernel
theorem dX6_init_15 : decode cX6_init 15 = .ok (.aload_n 0, 1) := by decide +kernel
theorem dX6_init_16 : decode cX6_init 16 = .ok (.iconst (-1), 1) := by decide +kernel
theorem dX6_init_17 : decode cX6_init 17 = .ok (.putfield 18, 3) := by decide +kernel
theorem dX6_init_20 : decode cX6_init 20 = .ok (.aload_n 0, 1) := by decide +kernel
theorem dX6_init_21 : decode cX6_init 21 = .ok (.iconst (-1), 1) := by decide +kernel
theorem dX6_init_22 : decode cX6_init 22 = .ok (.putfield 21, 3) := by decide +kernel
theorem dX6_init_25 : decode cX6_init 25 = .ok (.aload_n 0, 1) := by decide +kernel
theorem dX6_init_26 : decode cX6_init 26 = .ok (.iconst (-1), 1) := by decide +kernel
theorem dX6_init_27 : decode cX6_init 27 = .ok (.putfield 24, 3) := by decide +kernel
theorem dX6_init_30 : decode cX6_init 30 = .ok (.aload_n 0, 1) := by decide +kernel
theorem dX6_init_31 : decode cX6_init 31 = .ok (.iconst 4, 1) := by decide +kernel
theorem dX6_init_32 : decode cX6_init 32 = .ok (.newarray .int, 2) := by decide +kernel
theorem dX6_init_34 : decode cX6_init 34 = .ok (.putfield 27, 3) := by decide +kernel
theorem dX6_init_37 : decode cX6_init 37 = .ok (.aload_n 0, 1) := by decide +kernel
theorem dX6_init_38 : decode cX6_init 38 = .ok (.iconst 4, 1) := by decide +kernel
theorem dX6_init_39 : decode cX6_init 39 = .ok (.newarray .int, 2) := by decide +kernel
theorem dX6_init_41 : decode cX6_init 41 = .ok (.putfield 31, 3) := by decide +kernel
theorem dX6_init_44 : decode cX6_init 44 = .ok (.aload_n 0, 1) := by decide +kernel
theorem dX6_init_45 : decode cX6_init 45 = .ok (.iconst 5, 1) := by decide +kernel
theorem dX6_init_46 : decode cX6_init 46 = .ok (.newarray .int, 2) := by decide +kernel
theorem dX6_init_48 : decode cX6_init 48 = .ok (.putfield 34, 3) := by decide +kernel
theorem dX6_init_51 : decode cX6_init 51 = .ok (.aload_n 0, 1) := by decide +kernel
theorem dX6_init_52 : decode cX6_init 52 = .ok (.bipush 105, 2) := by decide +kernel
theorem dX6_init_54 : decode cX6_init 54 = .ok (.newarray .int, 2) := by decide +kernel
theorem dX6_init_56 : decode cX6_init 56 = .ok (.putfield 37, 3) := by decide +kernel
theorem dX6_init_59 : decode cX6_init 59 = .ok (.aload_n 0, 1) := by decide +kernel
theorem dX6_init_60 : decode cX6_init 60 = .ok (.iconst 0, 1) := by decide +kernel
theorem dX6_init_61 : decode cX6_init 61 = .ok (.putfield 40, 3) := by decide +kernel
theorem dX6_init_64 : decode cX6_init 64 = .ok (.aload_n 0, 1) := by decide +kernel
theorem dX6_init_65 : decode cX6_init 65 = .ok (.iconst 0, 1) := by decide +kernel
theorem dX6_init_66 : decode cX6_init 66 = .ok (.putfield 43, 3) := by decide +kernel
theorem dX6_init_69 : decode cX6_init 69 = .ok (.return_, 1) := by decide +kernel
theorem dX6_tally_0 : decode cX6_tally 0 = .ok (.aload_n 0, 1) := by decide +kernel
theorem dX6_tally_1 : decode cX6_tally 1 = .ok (.invokevirtual 46, 3) := by decide +kernel
theorem dX6_tally_4 : decode cX6_tally 4 = .ok (.aload_n 0, 1) := by decide +kernel
theorem dX6_tally_5 : decode cX6_tally 5 = .ok (.aload_n 2, 1) := by decide +kernel
theorem dX6_tally_6 : decode cX6_tally 6 = .ok (.getfield 49, 3) := by decide +kernel
theorem dX6_tally_9 : decode cX6_tally 9 = .ok (.iconst 4, 1) := by decide +kernel
theorem dX6_tally_10 : decode cX6_tally 10 = .ok (.invokestatic 52, 3) := by decide +kernel
theorem dX6_tally_13 : decode cX6_tally 13 = .ok (.putfield 40, 3) := by decide +kernel
theorem dX6_tally_16 : decode cX6_tally 16 = .ok (.aload_n 1, 1) := by decide +kernel
theorem dX6_tally_17 : decode cX6_tally 17 = .ok (.getfield 58, 3) := by decide +kernel
theorem dX6_tally_20 : decode cX6_tally 20 = .ok (.aload_n 0, 1) := by decide +kernel
theorem dX6_tally_21 : decode cX6_tally 21 = .ok (.getfield 40, 3) := by decide +kernel
theorem dX6_tally_24 : decode cX6_tally 24 = .ok (.invokestatic 63, 3) := by decide +kernel
theorem dX6_tally_27 : decode cX6_tally 27 = .ok (.istore 4, 2) := by decide +kernel
theorem dX6_tally_29 : decode cX6_tally 29 = .ok (.iconst 0, 1) := by decide +kernel
theorem dX6_tally_30 : decode cX6_tally 30 = .ok (.istore 5, 2) := by decide +kernel
theorem dX6_tally_32 : decode cX6_tally 32 = .ok (.iload 5, 2) := by decide +kernel
theorem dX6_tally_34 : decode cX6_tally 34 = .ok (.iload 4, 2) := by decide +kernel
theorem dX6_tally_36 : decode cX6_tally 36 = .ok (.if_icmp .ge 57, 3) := by decide +kernel
theorem dX6_tally_39 : decode cX6_tally 39 = .ok (.aload_n 0, 1) := by decide +kernel
theorem dX6_tally_40 : decode cX6_tally 40 = .ok (.iload 5, 2) := by decide +kernel
theorem dX6_tally_42 : decode cX6_tally 42 = .ok (.aload_n 1, 1) := by decide +kernel
theorem dX6_tally_43 : decode cX6_tally 43 = .ok (.getfield 58, 3) := by decide +kernel
theorem dX6_tally_46 : decode cX6_tally 46 = .ok (.invokevirtual 66, 3) := by decide +kernel
theorem dX6_tally_49 : decode cX6_tally 49 = .ok (.aload_n 0, 1) := by decide +kernel
theorem dX6_tally_50 : decode cX6_tally 50 = .ok (.aload_n 1, 1) := by decide +kernel
theorem dX6_tally_51 : decode cX6_tally 51 = .ok (.invokevirtual 70, 3) := by decide +kernel
theorem dX6_tally_54 : decode cX6_tally 54 = .ok (.ifCond .eq 33, 3) := by decide +kernel
theorem dX6_tally_57 : decode cX6_tally 57 = .ok (.aload_n 0, 1) := by decide +kernel
theorem dX6_tally_58 : decode cX6_tally 58 = .ok (.aload_n 1, 1) := by decide +kernel
theorem dX6_tally_59 : decode cX6_tally 59 = .ok (.aload_n 2, 1) := by decide +kernel
theorem dX6_tally_60 : decode cX6_tally 60 = .ok (.invokevirtual 74, 3) := by decide +kernel
theorem dX6_tally_63 : decode cX6_tally 63 = .ok (.ifCond .eq 24, 3) := by decide +kernel
theorem dX6_tally_66 : decode cX6_tally 66 = .ok (.aload_n 0, 1) := by decide +kernel
theorem dX6_tally_67 : decode cX6_tally 67 = .ok (.getfield 9, 3) := by decide +kernel
theorem dX6_tally_70 : decode cX6_tally 70 = .ok (.iload_n 3, 1) := by decide +kernel
theorem dX6_tally_71 : decode cX6_tally 71 = .ok (.if_icmp .ne 11, 3) := by decide +kernel
theorem dX6_tally_74 : decode cX6_tally 74 = .ok (.aload_n 0, 1) := by decide +kernel
theorem dX6_tally_75 : decode cX6_tally 75 = .ok (.aload_n 0, 1) := by decide +kernel
theorem dX6_tally_76 : decode cX6_tally 76 = .ok (.invokevirtual 78, 3) := by decide +kernel
theorem dX6_tally_79 : decode cX6_tally 79 = .ok (.putfield 15, 3) := by decide +kernel
theorem dX6_tally_82 : decode cX6_tally 82 = .ok (.aload_n 0, 1) := by decide +kernel
theorem dX6_tally_83 : decode cX6_tally 83 = .ok (.aload_n 1, 1) := by decide +kernel
theorem dX6_tally_84 : decode cX6_tally 84 = .ok (.invokevirtual 82, 3) := by decide +kernel
theorem dX6_tally_87 : decode cX6_tally 87 = .ok (.iinc 5 1, 3) := by decide +kernel
theorem dX6_tally_90 : decode cX6_tally 90 = .ok (.goto (-58), 3) := by decide +kernel
theorem dX6_tally_93 : decode cX6_tally 93 = .ok (.return_, 1) := by decide +kernel
theorem dX6_clear_0 : decode cX6_clear 0 = .ok (.aload_n 0, 1) := by decide +kernel
theorem dX6_clear_1 : decode cX6_clear 1 = .ok (.iconst 0, 1) := by decide +kernel
theorem dX6_clear_2 : decode cX6_clear 2 = .ok (.putfield 9, 3) := by decide +kernel
theorem dX6_clear_5 : decode cX6_clear 5 = .ok (.aload_n 0, 1) := by decide +kernel
theorem dX6_clear_6 : decode cX6_clear 6 = .ok (.bipush (-2), 2) := by decide +kernel
theorem dX6_clear_8 : decode cX6_clear 8 = .ok (.putfield 15, 3) := by decide +kernel
theorem dX6_clear_11 : decode cX6_clear 11 = .ok (.aload_n 0, 1) := by decide +kernel
theorem dX6_clear_12 : decode cX6_clear 12 = .ok (.iconst (-1), 1) := by decide +kernel
theorem dX6_clear_13 : decode cX6_clear 13 = .ok (.putfield 18, 3) := by decide +kernel
theorem dX6_clear_16 : decode cX6_clear 16 = .ok (.aload_n 0, 1) := by decide +kernel
theorem dX6_clear_17 : decode cX6_clear 17 = .ok (.iconst (-1), 1) := by decide +kernel
theorem dX6_clear_18 : decode cX6_clear 18 = .ok (.putfield 21, 3) := by decide +kernel
theorem dX6_clear_21 : decode cX6_clear 21 = .ok (.aload_n 0, 1) := by decide +kernel
theorem dX6_clear_22 : decode cX6_clear 22 = .ok (.iconst (-1), 1) := by decide +kernel
theorem dX6_clear_23 : decode cX6_clear 23 = .ok (.putfield 24, 3) := by decide +kernel
theorem dX6_clear_26 : decode cX6_clear 26 = .ok (.iconst 0, 1) := by decide +kernel
theorem dX6_clear_27 : decode cX6_clear 27 = .ok (.istore_n 1, 1) := by decide +kernel
theorem dX6_clear_28 : decode cX6_clear 28 = .ok (.iload_n 1, 1) := by decide +kernel
theorem dX6_clear_29 : decode cX6_clear 29 = .ok (.aload_n 0, 1) := by decide +kernel
theorem dX6_clear_30 : decode cX6_clear 30 = .ok (.getfield 37, 3) := by decide +kernel
theorem dX6_clear_33 : decode cX6_clear 33 = .ok (.arraylength, 1) := by decide +kernel
theorem dX6_clear_34 : decode cX6_clear 34 = .ok (.if_icmp .ge 16, 3) := by decide +kernel
theorem dX6_clear_37 : decode cX6_clear 37 = .ok (.aload_n 0, 1) := by decide +kernel
theorem dX6_clear_38 : decode cX6_clear 38 = .ok (.getfield 37, 3) := by decide +kernel
theorem dX6_clear_41 : decode cX6_clear 41 = .ok (.iload_n 1, 1) := by decide +kernel
theorem dX6_clear_42 : decode cX6_clear 42 = .ok (.iconst 0, 1) := by decide +kernel
theorem dX6_clear_43 : decode cX6_clear 43 = .ok (.iastore, 1) := by decide +kernel
theorem dX6_clear_44 : decode cX6_clear 44 = .ok (.iinc 1 1, 3) := by decide +kernel
theorem dX6_clear_47 : decode cX6_clear 47 = .ok (.goto (-19), 3) := by decide +kernel
theorem dX6_clear_50 : decode cX6_clear 50 = .ok (.return_, 1) := by decide +kernel
theorem dX6_spell_0 : decode cX6_spell 0 = .ok (.iload_n 1, 1) := by decide +kernel
theorem dX6_spell_1 : decode cX6_spell 1 = .ok (.istore_n 3, 1) := by decide +kernel
theorem dX6_spell_2 : decode cX6_spell 2 = .ok (.iconst 1, 1) := by decide +kernel
theorem dX6_spell_3 : decode cX6_spell 3 = .ok (.iload_n 2, 1) := by decide +kernel
theorem dX6_spell_4 : decode cX6_spell 4 = .ok (.invokestatic 86, 3) := by decide +kernel
theorem dX6_spell_7 : decode cX6_spell 7 = .ok (.istore 4, 2) := by decide +kernel
theorem dX6_spell_9 : decode cX6_spell 9 = .ok (.aload_n 0, 1) := by decide +kernel
theorem dX6_spell_10 : decode cX6_spell 10 = .ok (.getfield 40, 3) := by decide +kernel
theorem dX6_spell_13 : decode cX6_spell 13 = .ok (.iconst 1, 1) := by decide +kernel
theorem dX6_spell_14 : decode cX6_spell 14 = .ok (.isub, 1) := by decide +kernel
theorem dX6_spell_15 : decode cX6_spell 15 = .ok (.istore 5, 2) := by decide +kernel
theorem dX6_spell_17 : decode cX6_spell 17 = .ok (.iload 5, 2) := by decide +kernel
theorem dX6_spell_19 : decode cX6_spell 19 = .ok (.ifCond .lt 25, 3) := by decide +kernel
theorem dX6_spell_22 : decode cX6_spell 22 = .ok (.aload_n 0, 1) := by decide +kernel
theorem dX6_spell_23 : decode cX6_spell 23 = .ok (.getfield 27, 3) := by decide +kernel
theorem dX6_spell_26 : decode cX6_spell 26 = .ok (.iload 5, 2) := by decide +kernel
theorem dX6_spell_28 : decode cX6_spell 28 = .ok (.iload_n 3, 1) := by decide +kernel
theorem dX6_spell_29 : decode cX6_spell 29 = .ok (.iload 4, 2) := by decide +kernel
theorem dX6_spell_31 : decode cX6_spell 31 = .ok (.irem, 1) := by decide +kernel
theorem dX6_spell_32 : decode cX6_spell 32 = .ok (.iastore, 1) := by decide +kernel
theorem dX6_spell_33 : decode cX6_spell 33 = .ok (.iload_n 3, 1) := by decide +kernel
theorem dX6_spell_34 : decode cX6_spell 34 = .ok (.iload 4, 2) := by decide +kernel
theorem dX6_spell_36 : decode cX6_spell 36 = .ok (.idiv, 1) := by decide +kernel
theorem dX6_spell_37 : decode cX6_spell 37 = .ok (.istore_n 3, 1) := by decide +kernel
theorem dX6_spell_38 : decode cX6_spell 38 = .ok (.iinc 5 (-1), 3) := by decide +kernel
theorem dX6_spell_41 : decode cX6_spell 41 = .ok (.goto (-24), 3) := by decide +kernel
theorem dX6_spell_44 : decode cX6_spell 44 = .ok (.return_, 1) := by decide +kernel
theorem dX6_makeRuns_0 : decode cX6_makeRuns 0 = .ok (.iconst 0, 1) := by decide +kernel
theorem dX6_makeRuns_1 : decode cX6_makeRuns 1 = .ok (.istore_n 2, 1) := by decide +kernel
theorem dX6_makeRuns_2 : decode cX6_makeRuns 2 = .ok (.iload_n 2, 1) := by decide +kernel
theorem dX6_makeRuns_3 : decode cX6_makeRuns 3 = .ok (.aload_n 1, 1) := by decide +kernel
theorem dX6_makeRuns_4 : decode cX6_makeRuns 4 = .ok (.getfield 58, 3) := by decide +kernel
theorem dX6_makeRuns_7 : decode cX6_makeRuns 7 = .ok (.if_icmp .ge 21, 3) := by decide +kernel
theorem dX6_makeRuns_10 : decode cX6_makeRuns 10 = .ok (.aload_n 0, 1) := by decide +kernel
theorem dX6_makeRuns_11 : decode cX6_makeRuns 11 = .ok (.getfield 34, 3) := by decide +kernel
theorem dX6_makeRuns_14 : decode cX6_makeRuns 14 = .ok (.iload_n 2, 1) := by decide +kernel
theorem dX6_makeRuns_15 : decode cX6_makeRuns 15 = .ok (.aload_n 1, 1) := by decide +kernel
theorem dX6_makeRuns_16 : decode cX6_makeRuns 16 = .ok (.getfield 89, 3) := by decide +kernel
theorem dX6_makeRuns_19 : decode cX6_makeRuns 19 = .ok (.iload_n 2, 1) := by decide +kernel
theorem dX6_makeRuns_20 : decode cX6_makeRuns 20 = .ok (.iaload, 1) := by decide +kernel
theorem dX6_makeRuns_21 : decode cX6_makeRuns 21 = .ok (.iastore, 1) := by decide +kernel
theorem dX6_makeRuns_22 : decode cX6_makeRuns 22 = .ok (.iinc 2 1, 3) := by decide +kernel
theorem dX6_makeRuns_25 : decode cX6_makeRuns 25 = .ok (.goto (-23), 3) := by decide +kernel
theorem dX6_makeRuns_28 : decode cX6_makeRuns 28 = .ok (.aload_n 0, 1) := by decide +kernel
theorem dX6_makeRuns_29 : decode cX6_makeRuns 29 = .ok (.iconst 0, 1) := by decide +kernel
theorem dX6_makeRuns_30 : decode cX6_makeRuns 30 = .ok (.putfield 43, 3) := by decide +kernel
theorem dX6_makeRuns_33 : decode cX6_makeRuns 33 = .ok (.aload_n 1, 1) := by decide +kernel
theorem dX6_makeRuns_34 : decode cX6_makeRuns 34 = .ok (.getfield 92, 3) := by decide +kernel
theorem dX6_makeRuns_37 : decode cX6_makeRuns 37 = .ok (.istore_n 2, 1) := by decide +kernel
theorem dX6_makeRuns_38 : decode cX6_makeRuns 38 = .ok (.iconst 0, 1) := by decide +kernel
theorem dX6_makeRuns_39 : decode cX6_makeRuns 39 = .ok (.istore_n 3, 1) := by decide +kernel
theorem dX6_makeRuns_40 : decode cX6_makeRuns 40 = .ok (.iload_n 3, 1) := by decide +kernel
theorem dX6_makeRuns_41 : decode cX6_makeRuns 41 = .ok (.aload_n 0, 1) := by decide +kernel
theorem dX6_makeRuns_42 : decode cX6_makeRuns 42 = .ok (.getfield 40, 3) := by decide +kernel
theorem dX6_makeRuns_45 : decode cX6_makeRuns 45 = .ok (.if_icmp .ge 118, 3) := by decide +kernel
theorem dX6_makeRuns_48 : decode cX6_makeRuns 48 = .ok (.aload_n 0, 1) := by decide +kernel
theorem dX6_makeRuns_49 : decode cX6_makeRuns 49 = .ok (.getfield 27, 3) := by decide +kernel
theorem dX6_makeRuns_52 : decode cX6_makeRuns 52 = .ok (.iload_n 3, 1) := by decide +kernel
theorem dX6_makeRuns_53 : decode cX6_makeRuns 53 = .ok (.iaload, 1) := by decide +kernel
theorem dX6_makeRuns_54 : decode cX6_makeRuns 54 = .ok (.istore 4, 2) := by decide +kernel
theorem dX6_makeRuns_56 : decode cX6_makeRuns 56 = .ok (.aload_n 1, 1) := by decide +kernel
theorem dX6_makeRuns_57 : decode cX6_makeRuns 57 = .ok (.iload 4, 2) := by decide +kernel
theorem dX6_makeRuns_59 : decode cX6_makeRuns 59 = .ok (.invokevirtual 95, 3) := by decide +kernel
theorem dX6_makeRuns_62 : decode cX6_makeRuns 62 = .ok (.ifCond .eq 17, 3) := by decide +kernel
theorem dX6_makeRuns_65 : decode cX6_makeRuns 65 = .ok (.aload_n 0, 1) := by decide +kernel
theorem dX6_makeRuns_66 : decode cX6_makeRuns 66 = .ok (.getfield 34, 3) := by decide +kernel
theorem dX6_makeRuns_69 : decode cX6_makeRuns 69 = .ok (.iload 4, 2) := by decide +kernel
theorem dX6_makeRuns_71 : decode cX6_makeRuns 71 = .ok (.iaload, 1) := by decide +kernel
theorem dX6_makeRuns_72 : decode cX6_makeRuns 72 = .ok (.aload_n 0, 1) := by decide +kernel
theorem dX6_makeRuns_73 : decode cX6_makeRuns 73 = .ok (.getfield 43, 3) := by decide +kernel
theorem dX6_makeRuns_76 : decode cX6_makeRuns 76 = .ok (.if_icmp .gt 5, 3) := by decide +kernel
theorem dX6_makeRuns_79 : decode cX6_makeRuns 79 = .ok (.iconst 0, 1) := by decide +kernel
theorem dX6_makeRuns_80 : decode cX6_makeRuns 80 = .ok (.ireturn, 1) := by decide +kernel
theorem dX6_makeRuns_81 : decode cX6_makeRuns 81 = .ok (.aload_n 1, 1) := by decide +kernel
theorem dX6_makeRuns_82 : decode cX6_makeRuns 82 = .ok (.iload_n 2, 1) := by decide +kernel
theorem dX6_makeRuns_83 : decode cX6_makeRuns 83 = .ok (.aload_n 1, 1) := by decide +kernel
theorem dX6_makeRuns_84 : decode cX6_makeRuns 84 = .ok (.getfield 99, 3) := by decide +kernel
theorem dX6_makeRuns_87 : decode cX6_makeRuns 87 = .ok (.iload 4, 2) := by decide +kernel
theorem dX6_makeRuns_89 : decode cX6_makeRuns 89 = .ok (.iaload, 1) := by decide +kernel
theorem dX6_makeRuns_90 : decode cX6_makeRuns 90 = .ok (.invokevirtual 102, 3) := by decide +kernel
theorem dX6_makeRuns_93 : decode cX6_makeRuns 93 = .ok (.istore 5, 2) := by decide +kernel
theorem dX6_makeRuns_95 : decode cX6_makeRuns 95 = .ok (.aload_n 0, 1) := by decide +kernel
theorem dX6_makeRuns_96 : decode cX6_makeRuns 96 = .ok (.getfield 34, 3) := by decide +kernel
theorem dX6_makeRuns_99 : decode cX6_makeRuns 99 = .ok (.iload 4, 2) := by decide +kernel
theorem dX6_makeRuns_101 : decode cX6_makeRuns 101 = .ok (.iaload, 1) := by decide +kernel
theorem dX6_makeRuns_102 : decode cX6_makeRuns 102 = .ok (.aload_n 0, 1) := by decide +kernel
theorem dX6_makeRuns_103 : decode cX6_makeRuns 103 = .ok (.getfield 43, 3) := by decide +kernel
theorem dX6_makeRuns_106 : decode cX6_makeRuns 106 = .ok (.iload 5, 2) := by decide +kernel
theorem dX6_makeRuns_108 : decode cX6_makeRuns 108 = .ok (.iadd, 1) := by decide +kernel
theorem dX6_makeRuns_109 : decode cX6_makeRuns 109 = .ok (.if_icmp .le 27, 3) := by decide +kernel
theorem dX6_makeRuns_112 : decode cX6_makeRuns 112 = .ok (.aload_n 0, 1) := by decide +kernel
theorem dX6_makeRuns_113 : decode cX6_makeRuns 113 = .ok (.getfield 34, 3) := by decide +kernel
theorem dX6_makeRuns_116 : decode cX6_makeRuns 116 = .ok (.iload 4, 2) := by decide +kernel
theorem dX6_makeRuns_118 : decode cX6_makeRuns 118 = .ok (.aload_n 0, 1) := by decide +kernel
theorem dX6_makeRuns_119 : decode cX6_makeRuns 119 = .ok (.getfield 43, 3) := by decide +kernel
theorem dX6_makeRuns_122 : decode cX6_makeRuns 122 = .ok (.iload 5, 2) := by decide +kernel
theorem dX6_makeRuns_124 : decode cX6_makeRuns 124 = .ok (.iadd, 1) := by decide +kernel
theorem dX6_makeRuns_125 : decode cX6_makeRuns 125 = .ok (.iconst 1, 1) := by decide +kernel
theorem dX6_makeRuns_126 : decode cX6_makeRuns 126 = .ok (.iadd, 1) := by decide +kernel
theorem dX6_makeRuns_127 : decode cX6_makeRuns 127 = .ok (.aload_n 1, 1) := by decide +kernel
theorem dX6_makeRuns_128 : decode cX6_makeRuns 128 = .ok (.getfield 105, 3) := by decide +kernel
theorem dX6_makeRuns_131 : decode cX6_makeRuns 131 = .ok (.iload 4, 2) := by decide +kernel
theorem dX6_makeRuns_133 : decode cX6_makeRuns 133 = .ok (.iaload, 1) := by decide +kernel
theorem dX6_makeRuns_134 : decode cX6_makeRuns 134 = .ok (.iadd, 1) := by decide +kernel
theorem dX6_makeRuns_135 : decode cX6_makeRuns 135 = .ok (.iastore, 1) := by decide +kernel
theorem dX6_makeRuns_136 : decode cX6_makeRuns 136 = .ok (.aload_n 0, 1) := by decide +kernel
theorem dX6_makeRuns_137 : decode cX6_makeRuns 137 = .ok (.dup, 1) := by decide +kernel
theorem dX6_makeRuns_138 : decode cX6_makeRuns 138 = .ok (.getfield 43, 3) := by decide +kernel
theorem dX6_makeRuns_141 : decode cX6_makeRuns 141 = .ok (.iload 5, 2) := by decide +kernel
theorem dX6_makeRuns_143 : decode cX6_makeRuns 143 = .ok (.iconst 1, 1) := by decide +kernel
theorem dX6_makeRuns_144 : decode cX6_makeRuns 144 = .ok (.iadd, 1) := by decide +kernel
theorem dX6_makeRuns_145 : decode cX6_makeRuns 145 = .ok (.iadd, 1) := by decide +kernel
theorem dX6_makeRuns_146 : decode cX6_makeRuns 146 = .ok (.putfield 43, 3) := by decide +kernel
theorem dX6_makeRuns_149 : decode cX6_makeRuns 149 = .ok (.aload_n 1, 1) := by decide +kernel
theorem dX6_makeRuns_150 : decode cX6_makeRuns 150 = .ok (.getfield 99, 3) := by decide +kernel
theorem dX6_makeRuns_153 : decode cX6_makeRuns 153 = .ok (.iload 4, 2) := by decide +kernel
theorem dX6_makeRuns_155 : decode cX6_makeRuns 155 = .ok (.iaload, 1) := by decide +kernel
theorem dX6_makeRuns_156 : decode cX6_makeRuns 156 = .ok (.istore_n 2, 1) := by decide +kernel
theorem dX6_makeRuns_157 : decode cX6_makeRuns 157 = .ok (.iinc 3 1, 3) := by decide +kernel
theorem dX6_makeRuns_160 : decode cX6_makeRuns 160 = .ok (.goto (-120), 3) := by decide +kernel
theorem dX6_makeRuns_163 : decode cX6_makeRuns 163 = .ok (.iconst 1, 1) := by decide +kernel
theorem dX6_makeRuns_164 : decode cX6_makeRuns 164 = .ok (.ireturn, 1) := by decide +kernel
theorem dX6_isTrue_0 : decode cX6_isTrue 0 = .ok (.iconst 0, 1) := by decide +kernel
theorem dX6_isTrue_1 : decode cX6_isTrue 1 = .ok (.istore_n 3, 1) := by decide +kernel
theorem dX6_isTrue_2 : decode cX6_isTrue 2 = .ok (.iload_n 3, 1) := by decide +kernel
theorem dX6_isTrue_3 : decode cX6_isTrue 3 = .ok (.aload_n 2, 1) := by decide +kernel
theorem dX6_isTrue_4 : decode cX6_isTrue 4 = .ok (.getfield 108, 3) := by decide +kernel
theorem dX6_isTrue_7 : decode cX6_isTrue 7 = .ok (.if_icmp .ge 73, 3) := by decide +kernel
theorem dX6_isTrue_10 : decode cX6_isTrue 10 = .ok (.aload_n 2, 1) := by decide +kernel
theorem dX6_isTrue_11 : decode cX6_isTrue 11 = .ok (.getfield 111, 3) := by decide +kernel
theorem dX6_isTrue_14 : decode cX6_isTrue 14 = .ok (.iload_n 3, 1) := by decide +kernel
theorem dX6_isTrue_15 : decode cX6_isTrue 15 = .ok (.iaload, 1) := by decide +kernel
theorem dX6_isTrue_16 : decode cX6_isTrue 16 = .ok (.istore 4, 2) := by decide +kernel
theorem dX6_isTrue_18 : decode cX6_isTrue 18 = .ok (.aload_n 1, 1) := by decide +kernel
theorem dX6_isTrue_19 : decode cX6_isTrue 19 = .ok (.iload 4, 2) := by decide +kernel
theorem dX6_isTrue_21 : decode cX6_isTrue 21 = .ok (.invokevirtual 95, 3) := by decide +kernel
theorem dX6_isTrue_24 : decode cX6_isTrue 24 = .ok (.ifCond .ne 5, 3) := by decide +kernel
theorem dX6_isTrue_27 : decode cX6_isTrue 27 = .ok (.iconst 0, 1) := by decide +kernel
theorem dX6_isTrue_28 : decode cX6_isTrue 28 = .ok (.ireturn, 1) := by decide +kernel
theorem dX6_isTrue_29 : decode cX6_isTrue 29 = .ok (.aload_n 0, 1) := by decide +kernel
theorem dX6_isTrue_30 : decode cX6_isTrue 30 = .ok (.getfield 34, 3) := by decide +kernel
theorem dX6_isTrue_33 : decode cX6_isTrue 33 = .ok (.iload 4, 2) := by decide +kernel
theorem dX6_isTrue_35 : decode cX6_isTrue 35 = .ok (.iaload, 1) := by decide +kernel
theorem dX6_isTrue_36 : decode cX6_isTrue 36 = .ok (.aload_n 2, 1) := by decide +kernel
theorem dX6_isTrue_37 : decode cX6_isTrue 37 = .ok (.getfield 114, 3) := by decide +kernel
theorem dX6_isTrue_40 : decode cX6_isTrue 40 = .ok (.iload_n 3, 1) := by decide +kernel
theorem dX6_isTrue_41 : decode cX6_isTrue 41 = .ok (.iaload, 1) := by decide +kernel
theorem dX6_isTrue_42 : decode cX6_isTrue 42 = .ok (.if_icmp .le 7, 3) := by decide +kernel
theorem dX6_isTrue_45 : decode cX6_isTrue 45 = .ok (.iconst 1, 1) := by decide +kernel
theorem dX6_isTrue_46 : decode cX6_isTrue 46 = .ok (.goto 4, 3) := by decide +kernel
theorem dX6_isTrue_49 : decode cX6_isTrue 49 = .ok (.iconst 0, 1) := by decide +kernel
theorem dX6_isTrue_50 : decode cX6_isTrue 50 = .ok (.istore 5, 2) := by decide +kernel
theorem dX6_isTrue_52 : decode cX6_isTrue 52 = .ok (.iload 5, 2) := by decide +kernel
theorem dX6_isTrue_54 : decode cX6_isTrue 54 = .ok (.aload_n 2, 1) := by decide +kernel
theorem dX6_isTrue_55 : decode cX6_isTrue 55 = .ok (.getfield 116, 3) := by decide +kernel
theorem dX6_isTrue_58 : decode cX6_isTrue 58 = .ok (.iload_n 3, 1) := by decide +kernel
theorem dX6_isTrue_59 : decode cX6_isTrue 59 = .ok (.iaload, 1) := by decide +kernel
theorem dX6_isTrue_60 : decode cX6_isTrue 60 = .ok (.iconst 1, 1) := by decide +kernel
theorem dX6_isTrue_61 : decode cX6_isTrue 61 = .ok (.if_icmp .ne 7, 3) := by decide +kernel
theorem dX6_isTrue_64 : decode cX6_isTrue 64 = .ok (.iconst 1, 1) := by decide +kernel
theorem dX6_isTrue_65 : decode cX6_isTrue 65 = .ok (.goto 4, 3) := by decide +kernel
theorem dX6_isTrue_68 : decode cX6_isTrue 68 = .ok (.iconst 0, 1) := by decide +kernel
theorem dX6_isTrue_69 : decode cX6_isTrue 69 = .ok (.if_icmp .eq 5, 3) := by decide +kernel
theorem dX6_isTrue_72 : decode cX6_isTrue 72 = .ok (.iconst 0, 1) := by decide +kernel
theorem dX6_isTrue_73 : decode cX6_isTrue 73 = .ok (.ireturn, 1) := by decide +kernel
theorem dX6_isTrue_74 : decode cX6_isTrue 74 = .ok (.iinc 3 1, 3) := by decide +kernel
theorem dX6_isTrue_77 : decode cX6_isTrue 77 = .ok (.goto (-75), 3) := by decide +kernel
theorem dX6_isTrue_80 : decode cX6_isTrue 80 = .ok (.iconst 1, 1) := by decide +kernel
theorem dX6_isTrue_81 : decode cX6_isTrue 81 = .ok (.ireturn, 1) := by decide +kernel
theorem dX6_numberOfRow_0 : decode cX6_numberOfRow 0 = .ok (.iconst 1, 1) := by decide +kernel
theorem dX6_numberOfRow_1 : decode cX6_numberOfRow 1 = .ok (.istore_n 1, 1) := by decide +kernel
theorem dX6_numberOfRow_2 : decode cX6_numberOfRow 2 = .ok (.iconst 0, 1) := by decide +kernel
theorem dX6_numberOfRow_3 : decode cX6_numberOfRow 3 = .ok (.istore_n 2, 1) := by decide +kernel
theorem dX6_numberOfRow_4 : decode cX6_numberOfRow 4 = .ok (.iload_n 2, 1) := by decide +kernel
theorem dX6_numberOfRow_5 : decode cX6_numberOfRow 5 = .ok (.aload_n 0, 1) := by decide +kernel
theorem dX6_numberOfRow_6 : decode cX6_numberOfRow 6 = .ok (.getfield 40, 3) := by decide +kernel
theorem dX6_numberOfRow_9 : decode cX6_numberOfRow 9 = .ok (.if_icmp .ge 21, 3) := by decide +kernel
theorem dX6_numberOfRow_12 : decode cX6_numberOfRow 12 = .ok (.iload_n 1, 1) := by decide +kernel
theorem dX6_numberOfRow_13 : decode cX6_numberOfRow 13 = .ok (.bipush 10, 2) := by decide +kernel
theorem dX6_numberOfRow_15 : decode cX6_numberOfRow 15 = .ok (.imul, 1) := by decide +kernel
theorem dX6_numberOfRow_16 : decode cX6_numberOfRow 16 = .ok (.aload_n 0, 1) := by decide +kernel
theorem dX6_numberOfRow_17 : decode cX6_numberOfRow 17 = .ok (.getfield 27, 3) := by decide +kernel
theorem dX6_numberOfRow_20 : decode cX6_numberOfRow 20 = .ok (.iload_n 2, 1) := by decide +kernel
theorem dX6_numberOfRow_21 : decode cX6_numberOfRow 21 = .ok (.iaload, 1) := by decide +kernel
theorem dX6_numberOfRow_22 : decode cX6_numberOfRow 22 = .ok (.iadd, 1) := by decide +kernel
theorem dX6_numberOfRow_23 : decode cX6_numberOfRow 23 = .ok (.istore_n 1, 1) := by decide +kernel
theorem dX6_numberOfRow_24 : decode cX6_numberOfRow 24 = .ok (.iinc 2 1, 3) := by decide +kernel
theorem dX6_numberOfRow_27 : decode cX6_numberOfRow 27 = .ok (.goto (-23), 3) := by decide +kernel
theorem dX6_numberOfRow_30 : decode cX6_numberOfRow 30 = .ok (.iload_n 1, 1) := by decide +kernel
theorem dX6_numberOfRow_31 : decode cX6_numberOfRow 31 = .ok (.ireturn, 1) := by decide +kernel
theorem dX6_takeIn_0 : decode cX6_takeIn 0 = .ok (.iconst 0, 1) := by decide +kernel
theorem dX6_takeIn_1 : decode cX6_takeIn 1 = .ok (.istore_n 2, 1) := by decide +kernel
theorem dX6_takeIn_2 : decode cX6_takeIn 2 = .ok (.iconst 0, 1) := by decide +kernel
theorem dX6_takeIn_3 : decode cX6_takeIn 3 = .ok (.istore_n 3, 1) := by decide +kernel
theorem dX6_takeIn_4 : decode cX6_takeIn 4 = .ok (.iload_n 3, 1) := by decide +kernel
theorem dX6_takeIn_5 : decode cX6_takeIn 5 = .ok (.aload_n 1, 1) := by decide +kernel
theorem dX6_takeIn_6 : decode cX6_takeIn 6 = .ok (.getfield 58, 3) := by decide +kernel
theorem dX6_takeIn_9 : decode cX6_takeIn 9 = .ok (.if_icmp .ge 67, 3) := by decide +kernel
theorem dX6_takeIn_12 : decode cX6_takeIn 12 = .ok (.aload_n 0, 1) := by decide +kernel
theorem dX6_takeIn_13 : decode cX6_takeIn 13 = .ok (.getfield 34, 3) := by decide +kernel
theorem dX6_takeIn_16 : decode cX6_takeIn 16 = .ok (.iload_n 3, 1) := by decide +kernel
theorem dX6_takeIn_17 : decode cX6_takeIn 17 = .ok (.iaload, 1) := by decide +kernel
theorem dX6_takeIn_18 : decode cX6_takeIn 18 = .ok (.aload_n 0, 1) := by decide +kernel
theorem dX6_takeIn_19 : decode cX6_takeIn 19 = .ok (.getfield 43, 3) := by decide +kernel
theorem dX6_takeIn_22 : decode cX6_takeIn 22 = .ok (.if_icmp .le 6, 3) := by decide +kernel
theorem dX6_takeIn_25 : decode cX6_takeIn 25 = .ok (.iinc 2 1, 3) := by decide +kernel
theorem dX6_takeIn_28 : decode cX6_takeIn 28 = .ok (.iconst 0, 1) := by decide +kernel
theorem dX6_takeIn_29 : decode cX6_takeIn 29 = .ok (.istore 4, 2) := by decide +kernel
theorem dX6_takeIn_31 : decode cX6_takeIn 31 = .ok (.iload 4, 2) := by decide +kernel
theorem dX6_takeIn_33 : decode cX6_takeIn 33 = .ok (.bipush 21, 2) := by decide +kernel
theorem dX6_takeIn_35 : decode cX6_takeIn 35 = .ok (.if_icmp .ge 35, 3) := by decide +kernel
theorem dX6_takeIn_38 : decode cX6_takeIn 38 = .ok (.iload 4, 2) := by decide +kernel
theorem dX6_takeIn_40 : decode cX6_takeIn 40 = .ok (.aload_n 0, 1) := by decide +kernel
theorem dX6_takeIn_41 : decode cX6_takeIn 41 = .ok (.getfield 34, 3) := by decide +kernel
theorem dX6_takeIn_44 : decode cX6_takeIn 44 = .ok (.iload_n 3, 1) := by decide +kernel
theorem dX6_takeIn_45 : decode cX6_takeIn 45 = .ok (.iaload, 1) := by decide +kernel
theorem dX6_takeIn_46 : decode cX6_takeIn 46 = .ok (.if_icmp .ge 24, 3) := by decide +kernel
theorem dX6_takeIn_49 : decode cX6_takeIn 49 = .ok (.aload_n 0, 1) := by decide +kernel
theorem dX6_takeIn_50 : decode cX6_takeIn 50 = .ok (.getfield 37, 3) := by decide +kernel
theorem dX6_takeIn_53 : decode cX6_takeIn 53 = .ok (.iload 4, 2) := by decide +kernel
theorem dX6_takeIn_55 : decode cX6_takeIn 55 = .ok (.iconst 5, 1) := by decide +kernel
theorem dX6_takeIn_56 : decode cX6_takeIn 56 = .ok (.imul, 1) := by decide +kernel
theorem dX6_takeIn_57 : decode cX6_takeIn 57 = .ok (.iload_n 3, 1) := by decide +kernel
theorem dX6_takeIn_58 : decode cX6_takeIn 58 = .ok (.iadd, 1) := by decide +kernel
theorem dX6_takeIn_59 : decode cX6_takeIn 59 = .ok (.dup2, 1) := by decide +kernel
theorem dX6_takeIn_60 : decode cX6_takeIn 60 = .ok (.iaload, 1) := by decide +kernel
theorem dX6_takeIn_61 : decode cX6_takeIn 61 = .ok (.iconst 1, 1) := by decide +kernel
theorem dX6_takeIn_62 : decode cX6_takeIn 62 = .ok (.iadd, 1) := by decide +kernel
theorem dX6_takeIn_63 : decode cX6_takeIn 63 = .ok (.iastore, 1) := by decide +kernel
theorem dX6_takeIn_64 : decode cX6_takeIn 64 = .ok (.iinc 4 1, 3) := by decide +kernel
theorem dX6_takeIn_67 : decode cX6_takeIn 67 = .ok (.goto (-36), 3) := by decide +kernel
theorem dX6_takeIn_70 : decode cX6_takeIn 70 = .ok (.iinc 3 1, 3) := by decide +kernel
theorem dX6_takeIn_73 : decode cX6_takeIn 73 = .ok (.goto (-69), 3) := by decide +kernel
theorem dX6_takeIn_76 : decode cX6_takeIn 76 = .ok (.iconst 0, 1) := by decide +kernel
theorem dX6_takeIn_77 : decode cX6_takeIn 77 = .ok (.istore_n 3, 1) := by decide +kernel
theorem dX6_takeIn_78 : decode cX6_takeIn 78 = .ok (.iload_n 3, 1) := by decide +kernel
theorem dX6_takeIn_79 : decode cX6_takeIn 79 = .ok (.aload_n 0, 1) := by decide +kernel
theorem dX6_takeIn_80 : decode cX6_takeIn 80 = .ok (.getfield 40, 3) := by decide +kernel
theorem dX6_takeIn_83 : decode cX6_takeIn 83 = .ok (.if_icmp .ge 47, 3) := by decide +kernel
theorem dX6_takeIn_86 : decode cX6_takeIn 86 = .ok (.aload_n 0, 1) := by decide +kernel
theorem dX6_takeIn_87 : decode cX6_takeIn 87 = .ok (.getfield 31, 3) := by decide +kernel
theorem dX6_takeIn_90 : decode cX6_takeIn 90 = .ok (.iload_n 3, 1) := by decide +kernel
theorem dX6_takeIn_91 : decode cX6_takeIn 91 = .ok (.aload_n 0, 1) := by decide +kernel
theorem dX6_takeIn_92 : decode cX6_takeIn 92 = .ok (.getfield 9, 3) := by decide +kernel
theorem dX6_takeIn_95 : decode cX6_takeIn 95 = .ok (.ifCond .eq 18, 3) := by decide +kernel
theorem dX6_takeIn_98 : decode cX6_takeIn 98 = .ok (.aload_n 0, 1) := by decide +kernel
theorem dX6_takeIn_99 : decode cX6_takeIn 99 = .ok (.getfield 31, 3) := by decide +kernel
theorem dX6_takeIn_102 : decode cX6_takeIn 102 = .ok (.iload_n 3, 1) := by decide +kernel
theorem dX6_takeIn_103 : decode cX6_takeIn 103 = .ok (.iaload, 1) := by decide +kernel
theorem dX6_takeIn_104 : decode cX6_takeIn 104 = .ok (.aload_n 0, 1) := by decide +kernel
theorem dX6_takeIn_105 : decode cX6_takeIn 105 = .ok (.getfield 27, 3) := by decide +kernel
theorem dX6_takeIn_108 : decode cX6_takeIn 108 = .ok (.iload_n 3, 1) := by decide +kernel
theorem dX6_takeIn_109 : decode cX6_takeIn 109 = .ok (.iaload, 1) := by decide +kernel
theorem dX6_takeIn_110 : decode cX6_takeIn 110 = .ok (.if_icmp .ne 12, 3) := by decide +kernel
theorem dX6_takeIn_113 : decode cX6_takeIn 113 = .ok (.aload_n 0, 1) := by decide +kernel
theorem dX6_takeIn_114 : decode cX6_takeIn 114 = .ok (.getfield 27, 3) := by decide +kernel
theorem dX6_takeIn_117 : decode cX6_takeIn 117 = .ok (.iload_n 3, 1) := by decide +kernel
theorem dX6_takeIn_118 : decode cX6_takeIn 118 = .ok (.iaload, 1) := by decide +kernel
theorem dX6_takeIn_119 : decode cX6_takeIn 119 = .ok (.goto 4, 3) := by decide +kernel
theorem dX6_takeIn_122 : decode cX6_takeIn 122 = .ok (.iconst (-1), 1) := by decide +kernel
theorem dX6_takeIn_123 : decode cX6_takeIn 123 = .ok (.iastore, 1) := by decide +kernel
theorem dX6_takeIn_124 : decode cX6_takeIn 124 = .ok (.iinc 3 1, 3) := by decide +kernel
theorem dX6_takeIn_127 : decode cX6_takeIn 127 = .ok (.goto (-49), 3) := by decide +kernel
theorem dX6_takeIn_130 : decode cX6_takeIn 130 = .ok (.aload_n 0, 1) := by decide +kernel
theorem dX6_takeIn_131 : decode cX6_takeIn 131 = .ok (.aload_n 0, 1) := by decide +kernel
theorem dX6_takeIn_132 : decode cX6_takeIn 132 = .ok (.getfield 9, 3) := by decide +kernel
theorem dX6_takeIn_135 : decode cX6_takeIn 135 = .ok (.ifCond .ne 10, 3) := by decide +kernel
theorem dX6_takeIn_138 : decode cX6_takeIn 138 = .ok (.aload_n 0, 1) := by decide +kernel
theorem dX6_takeIn_139 : decode cX6_takeIn 139 = .ok (.getfield 43, 3) := by decide +kernel
theorem dX6_takeIn_142 : decode cX6_takeIn 142 = .ok (.goto 14, 3) := by decide +kernel
theorem dX6_takeIn_145 : decode cX6_takeIn 145 = .ok (.aload_n 0, 1) := by decide +kernel
theorem dX6_takeIn_146 : decode cX6_takeIn 146 = .ok (.getfield 18, 3) := by decide +kernel
theorem dX6_takeIn_149 : decode cX6_takeIn 149 = .ok (.aload_n 0, 1) := by decide +kernel
theorem dX6_takeIn_150 : decode cX6_takeIn 150 = .ok (.getfield 43, 3) := by decide +kernel
theorem dX6_takeIn_153 : decode cX6_takeIn 153 = .ok (.invokestatic 52, 3) := by decide +kernel
theorem dX6_takeIn_156 : decode cX6_takeIn 156 = .ok (.putfield 18, 3) := by decide +kernel
theorem dX6_takeIn_159 : decode cX6_takeIn 159 = .ok (.aload_n 0, 1) := by decide +kernel
theorem dX6_takeIn_160 : decode cX6_takeIn 160 = .ok (.aload_n 0, 1) := by decide +kernel
theorem dX6_takeIn_161 : decode cX6_takeIn 161 = .ok (.getfield 21, 3) := by decide +kernel
theorem dX6_takeIn_164 : decode cX6_takeIn 164 = .ok (.aload_n 0, 1) := by decide +kernel
theorem dX6_takeIn_165 : decode cX6_takeIn 165 = .ok (.getfield 43, 3) := by decide +kernel
theorem dX6_takeIn_168 : decode cX6_takeIn 168 = .ok (.invokestatic 86, 3) := by decide +kernel
theorem dX6_takeIn_171 : decode cX6_takeIn 171 = .ok (.putfield 21, 3) := by decide +kernel
theorem dX6_takeIn_174 : decode cX6_takeIn 174 = .ok (.aload_n 0, 1) := by decide +kernel
theorem dX6_takeIn_175 : decode cX6_takeIn 175 = .ok (.aload_n 0, 1) := by decide +kernel
theorem dX6_takeIn_176 : decode cX6_takeIn 176 = .ok (.getfield 24, 3) := by decide +kernel
theorem dX6_takeIn_179 : decode cX6_takeIn 179 = .ok (.iload_n 2, 1) := by decide +kernel
theorem dX6_takeIn_180 : decode cX6_takeIn 180 = .ok (.invokestatic 86, 3) := by decide +kernel
theorem dX6_takeIn_183 : decode cX6_takeIn 183 = .ok (.putfield 24, 3) := by decide +kernel
theorem dX6_takeIn_186 : decode cX6_takeIn 186 = .ok (.aload_n 0, 1) := by decide +kernel
theorem dX6_takeIn_187 : decode cX6_takeIn 187 = .ok (.dup, 1) := by decide +kernel
theorem dX6_takeIn_188 : decode cX6_takeIn 188 = .ok (.getfield 9, 3) := by decide +kernel
theorem dX6_takeIn_191 : decode cX6_takeIn 191 = .ok (.iconst 1, 1) := by decide +kernel
theorem dX6_takeIn_192 : decode cX6_takeIn 192 = .ok (.iadd, 1) := by decide +kernel
theorem dX6_takeIn_193 : decode cX6_takeIn 193 = .ok (.putfield 9, 3) := by decide +kernel
theorem dX6_takeIn_196 : decode cX6_takeIn 196 = .ok (.return_, 1) := by decide +kernel
theorem dX6_sureRun_0 : decode cX6_sureRun 0 = .ok (.aload_n 0, 1) := by decide +kernel
theorem dX6_sureRun_1 : decode cX6_sureRun 1 = .ok (.getfield 9, 3) := by decide +kernel
theorem dX6_sureRun_4 : decode cX6_sureRun 4 = .ok (.ifCond .le 33, 3) := by decide +kernel
theorem dX6_sureRun_7 : decode cX6_sureRun 7 = .ok (.iload_n 1, 1) := by decide +kernel
theorem dX6_sureRun_8 : decode cX6_sureRun 8 = .ok (.ifCond .lt 29, 3) := by decide +kernel
theorem dX6_sureRun_11 : decode cX6_sureRun 11 = .ok (.iload_n 1, 1) := by decide +kernel
theorem dX6_sureRun_12 : decode cX6_sureRun 12 = .ok (.aload_n 0, 1) := by decide +kernel
theorem dX6_sureRun_13 : decode cX6_sureRun 13 = .ok (.getfield 40, 3) := by decide +kernel
theorem dX6_sureRun_16 : decode cX6_sureRun 16 = .ok (.if_icmp .ge 21, 3) := by decide +kernel
theorem dX6_sureRun_19 : decode cX6_sureRun 19 = .ok (.iload_n 1, 1) := by decide +kernel
theorem dX6_sureRun_20 : decode cX6_sureRun 20 = .ok (.aload_n 0, 1) := by decide +kernel
theorem dX6_sureRun_21 : decode cX6_sureRun 21 = .ok (.getfield 31, 3) := by decide +kernel
theorem dX6_sureRun_24 : decode cX6_sureRun 24 = .ok (.arraylength, 1) := by decide +kernel
theorem dX6_sureRun_25 : decode cX6_sureRun 25 = .ok (.if_icmp .ge 12, 3) := by decide +kernel
theorem dX6_sureRun_28 : decode cX6_sureRun 28 = .ok (.aload_n 0, 1) := by decide +kernel
theorem dX6_sureRun_29 : decode cX6_sureRun 29 = .ok (.getfield 31, 3) := by decide +kernel
theorem dX6_sureRun_32 : decode cX6_sureRun 32 = .ok (.iload_n 1, 1) := by decide +kernel
theorem dX6_sureRun_33 : decode cX6_sureRun 33 = .ok (.iaload, 1) := by decide +kernel
theorem dX6_sureRun_34 : decode cX6_sureRun 34 = .ok (.goto 4, 3) := by decide +kernel
theorem dX6_sureRun_37 : decode cX6_sureRun 37 = .ok (.iconst (-1), 1) := by decide +kernel
theorem dX6_sureRun_38 : decode cX6_sureRun 38 = .ok (.ireturn, 1) := by decide +kernel
theorem dX6_bestQuestion_0 : decode cX6_bestQuestion 0 = .ok (.iconst (-1), 1) := by decide +kernel
theorem dX6_bestQuestion_1 : decode cX6_bestQuestion 1 = .ok (.istore_n 2, 1) := by decide +kernel
theorem dX6_bestQuestion_2 : decode cX6_bestQuestion 2 = .ok (.aload_n 0, 1) := by decide +kernel
theorem dX6_bestQuestion_3 : decode cX6_bestQuestion 3 = .ok (.getfield 9, 3) := by decide +kernel
theorem dX6_bestQuestion_6 : decode cX6_bestQuestion 6 = .ok (.iconst 1, 1) := by decide +kernel
theorem dX6_bestQuestion_7 : decode cX6_bestQuestion 7 = .ok (.iadd, 1) := by decide +kernel
theorem dX6_bestQuestion_8 : decode cX6_bestQuestion 8 = .ok (.istore_n 3, 1) := by decide +kernel
theorem dX6_bestQuestion_9 : decode cX6_bestQuestion 9 = .ok (.iconst 0, 1) := by decide +kernel
theorem dX6_bestQuestion_10 : decode cX6_bestQuestion 10 = .ok (.istore 4, 2) := by decide +kernel
theorem dX6_bestQuestion_12 : decode cX6_bestQuestion 12 = .ok (.iload 4, 2) := by decide +kernel
theorem dX6_bestQuestion_14 : decode cX6_bestQuestion 14 = .ok (.bipush 21, 2) := by decide +kernel
theorem dX6_bestQuestion_16 : decode cX6_bestQuestion 16 = .ok (.if_icmp .ge 77, 3) := by decide +kernel
theorem dX6_bestQuestion_19 : decode cX6_bestQuestion 19 = .ok (.aload_n 0, 1) := by decide +kernel
theorem dX6_bestQuestion_20 : decode cX6_bestQuestion 20 = .ok (.getfield 9, 3) := by decide +kernel
theorem dX6_bestQuestion_23 : decode cX6_bestQuestion 23 = .ok (.ifCond .le 70, 3) := by decide +kernel
theorem dX6_bestQuestion_26 : decode cX6_bestQuestion 26 = .ok (.iconst 0, 1) := by decide +kernel
theorem dX6_bestQuestion_27 : decode cX6_bestQuestion 27 = .ok (.istore 5, 2) := by decide +kernel
theorem dX6_bestQuestion_29 : decode cX6_bestQuestion 29 = .ok (.iload 5, 2) := by decide +kernel
theorem dX6_bestQuestion_31 : decode cX6_bestQuestion 31 = .ok (.iload_n 1, 1) := by decide +kernel
theorem dX6_bestQuestion_32 : decode cX6_bestQuestion 32 = .ok (.if_icmp .ge 55, 3) := by decide +kernel
theorem dX6_bestQuestion_35 : decode cX6_bestQuestion 35 = .ok (.aload_n 0, 1) := by decide +kernel
theorem dX6_bestQuestion_36 : decode cX6_bestQuestion 36 = .ok (.getfield 37, 3) := by decide +kernel
theorem dX6_bestQuestion_39 : decode cX6_bestQuestion 39 = .ok (.iload 4, 2) := by decide +kernel
theorem dX6_bestQuestion_41 : decode cX6_bestQuestion 41 = .ok (.iconst 5, 1) := by decide +kernel
theorem dX6_bestQuestion_42 : decode cX6_bestQuestion 42 = .ok (.imul, 1) := by decide +kernel
theorem dX6_bestQuestion_43 : decode cX6_bestQuestion 43 = .ok (.iload 5, 2) := by decide +kernel
theorem dX6_bestQuestion_45 : decode cX6_bestQuestion 45 = .ok (.iadd, 1) := by decide +kernel
theorem dX6_bestQuestion_46 : decode cX6_bestQuestion 46 = .ok (.iaload, 1) := by decide +kernel
theorem dX6_bestQuestion_47 : decode cX6_bestQuestion 47 = .ok (.istore 6, 2) := by decide +kernel
theorem dX6_bestQuestion_49 : decode cX6_bestQuestion 49 = .ok (.iload 6, 2) := by decide +kernel
theorem dX6_bestQuestion_51 : decode cX6_bestQuestion 51 = .ok (.aload_n 0, 1) := by decide +kernel
theorem dX6_bestQuestion_52 : decode cX6_bestQuestion 52 = .ok (.getfield 9, 3) := by decide +kernel
theorem dX6_bestQuestion_55 : decode cX6_bestQuestion 55 = .ok (.iload 6, 2) := by decide +kernel
theorem dX6_bestQuestion_57 : decode cX6_bestQuestion 57 = .ok (.isub, 1) := by decide +kernel
theorem dX6_bestQuestion_58 : decode cX6_bestQuestion 58 = .ok (.invokestatic 86, 3) := by decide +kernel
theorem dX6_bestQuestion_61 : decode cX6_bestQuestion 61 = .ok (.istore 7, 2) := by decide +kernel
theorem dX6_bestQuestion_63 : decode cX6_bestQuestion 63 = .ok (.iload 7, 2) := by decide +kernel
theorem dX6_bestQuestion_65 : decode cX6_bestQuestion 65 = .ok (.iload_n 3, 1) := by decide +kernel
theorem dX6_bestQuestion_66 : decode cX6_bestQuestion 66 = .ok (.if_icmp .ge 15, 3) := by decide +kernel
theorem dX6_bestQuestion_69 : decode cX6_bestQuestion 69 = .ok (.iload 7, 2) := by decide +kernel
theorem dX6_bestQuestion_71 : decode cX6_bestQuestion 71 = .ok (.istore_n 3, 1) := by decide +kernel
theorem dX6_bestQuestion_72 : decode cX6_bestQuestion 72 = .ok (.bipush 10, 2) := by decide +kernel
theorem dX6_bestQuestion_74 : decode cX6_bestQuestion 74 = .ok (.iload 4, 2) := by decide +kernel
theorem dX6_bestQuestion_76 : decode cX6_bestQuestion 76 = .ok (.imul, 1) := by decide +kernel
theorem dX6_bestQuestion_77 : decode cX6_bestQuestion 77 = .ok (.iload 5, 2) := by decide +kernel
theorem dX6_bestQuestion_79 : decode cX6_bestQuestion 79 = .ok (.iadd, 1) := by decide +kernel
theorem dX6_bestQuestion_80 : decode cX6_bestQuestion 80 = .ok (.istore_n 2, 1) := by decide +kernel
theorem dX6_bestQuestion_81 : decode cX6_bestQuestion 81 = .ok (.iinc 5 1, 3) := by decide +kernel
theorem dX6_bestQuestion_84 : decode cX6_bestQuestion 84 = .ok (.goto (-55), 3) := by decide +kernel
theorem dX6_bestQuestion_87 : decode cX6_bestQuestion 87 = .ok (.iinc 4 1, 3) := by decide +kernel
theorem dX6_bestQuestion_90 : decode cX6_bestQuestion 90 = .ok (.goto (-78), 3) := by decide +kernel
theorem dX6_bestQuestion_93 : decode cX6_bestQuestion 93 = .ok (.iload_n 2, 1) := by decide +kernel
theorem dX6_bestQuestion_94 : decode cX6_bestQuestion 94 = .ok (.ireturn, 1) := by decide +kernel
theorem dX7_init_0 : decode cX7_init 0 = .ok (.aload_n 0, 1) := by decide +kernel
theorem dX7_init_1 : decode cX7_init 1 = .ok (.invokespecial 3, 3) := by decide +kernel
theorem dX7_init_4 : decode cX7_init 4 = .ok (.aload_n 0, 1) := by decide +kernel
theorem dX7_init_5 : decode cX7_init 5 = .ok (.iconst 0, 1) := by decide +kernel
theorem dX7_init_6 : decode cX7_init 6 = .ok (.putfield 9, 3) := by decide +kernel
theorem dX7_init_9 : decode cX7_init 9 = .ok (.aload_n 0, 1) := by decide +kernel
theorem dX7_init_10 : decode cX7_init 10 = .ok (.bipush 40, 2) := by decide +kernel
theorem dX7_init_12 : decode cX7_init 12 = .ok (.newarray .int, 2) := by decide +kernel
theorem dX7_init_14 : decode cX7_init 14 = .ok (.putfield 15, 3) := by decide +kernel
theorem dX7_init_17 : decode cX7_init 17 = .ok (.aload_n 0, 1) := by decide +kernel
theorem dX7_init_18 : decode cX7_init 18 = .ok (.bipush 40, 2) := by decide +kernel
theorem dX7_init_20 : decode cX7_init 20 = .ok (.newarray .int, 2) := by decide +kernel
theorem dX7_init_22 : decode cX7_init 22 = .ok (.putfield 19, 3) := by decide +kernel
theorem dX7_init_25 : decode cX7_init 25 = .ok (.return_, 1) := by decide +kernel
theorem dX7_add_0 : decode cX7_add 0 = .ok (.aload_n 0, 1) := by decide +kernel
theorem dX7_add_1 : decode cX7_add 1 = .ok (.getfield 9, 3) := by decide +kernel
theorem dX7_add_4 : decode cX7_add 4 = .ok (.bipush 40, 2) := by decide +kernel
theorem dX7_add_6 : decode cX7_add 6 = .ok (.if_icmp .lt 4, 3) := by decide +kernel
theorem dX7_add_9 : decode cX7_add 9 = .ok (.return_, 1) := by decide +kernel
theorem dX7_add_10 : decode cX7_add 10 = .ok (.aload_n 0, 1) := by decide +kernel
theorem dX7_add_11 : decode cX7_add 11 = .ok (.getfield 15, 3) := by decide +kernel
theorem dX7_add_14 : decode cX7_add 14 = .ok (.aload_n 0, 1) := by decide +kernel
theorem dX7_add_15 : decode cX7_add 15 = .ok (.getfield 9, 3) := by decide +kernel
theorem dX7_add_18 : decode cX7_add 18 = .ok (.iload_n 1, 1) := by decide +kernel
theorem dX7_add_19 : decode cX7_add 19 = .ok (.iastore, 1) := by decide +kernel
theorem dX7_add_20 : decode cX7_add 20 = .ok (.aload_n 0, 1) := by decide +kernel
theorem dX7_add_21 : decode cX7_add 21 = .ok (.getfield 19, 3) := by decide +kernel
theorem dX7_add_24 : decode cX7_add 24 = .ok (.aload_n 0, 1) := by decide +kernel
theorem dX7_add_25 : decode cX7_add 25 = .ok (.getfield 9, 3) := by decide +kernel
theorem dX7_add_28 : decode cX7_add 28 = .ok (.iload_n 2, 1) := by decide +kernel
theorem dX7_add_29 : decode cX7_add 29 = .ok (.iastore, 1) := by decide +kernel
theorem dX7_add_30 : decode cX7_add 30 = .ok (.aload_n 0, 1) := by decide +kernel
theorem dX7_add_31 : decode cX7_add 31 = .ok (.dup, 1) := by decide +kernel
theorem dX7_add_32 : decode cX7_add 32 = .ok (.getfield 9, 3) := by decide +kernel
theorem dX7_add_35 : decode cX7_add 35 = .ok (.iconst 1, 1) := by decide +kernel
theorem dX7_add_36 : decode cX7_add 36 = .ok (.iadd, 1) := by decide +kernel
theorem dX7_add_37 : decode cX7_add 37 = .ok (.putfield 9, 3) := by decide +kernel
theorem dX7_add_40 : decode cX7_add 40 = .ok (.return_, 1) := by decide +kernel
theorem dX7_has_0 : decode cX7_has 0 = .ok (.iload_n 1, 1) := by decide +kernel
theorem dX7_has_1 : decode cX7_has 1 = .ok (.ifCond .lt 15, 3) := by decide +kernel
theorem dX7_has_4 : decode cX7_has 4 = .ok (.iload_n 1, 1) := by decide +kernel
theorem dX7_has_5 : decode cX7_has 5 = .ok (.aload_n 0, 1) := by decide +kernel
theorem dX7_has_6 : decode cX7_has 6 = .ok (.getfield 9, 3) := by decide +kernel
theorem dX7_has_9 : decode cX7_has 9 = .ok (.if_icmp .ge 7, 3) := by decide +kernel
theorem dX7_has_12 : decode cX7_has 12 = .ok (.iconst 1, 1) := by decide +kernel
theorem dX7_has_13 : decode cX7_has 13 = .ok (.goto 4, 3) := by decide +kernel
theorem dX7_has_16 : decode cX7_has 16 = .ok (.iconst 0, 1) := by decide +kernel
theorem dX7_has_17 : decode cX7_has 17 = .ok (.ireturn, 1) := by decide +kernel
theorem dX7_copyFrom_0 : decode cX7_copyFrom 0 = .ok (.aload_n 0, 1) := by decide +kernel
theorem dX7_copyFrom_1 : decode cX7_copyFrom 1 = .ok (.aload_n 1, 1) := by decide +kernel
theorem dX7_copyFrom_2 : decode cX7_copyFrom 2 = .ok (.getfield 9, 3) := by decide +kernel
theorem dX7_copyFrom_5 : decode cX7_copyFrom 5 = .ok (.putfield 9, 3) := by decide +kernel
theorem dX7_copyFrom_8 : decode cX7_copyFrom 8 = .ok (.aload_n 1, 1) := by decide +kernel
theorem dX7_copyFrom_9 : decode cX7_copyFrom 9 = .ok (.getfield 15, 3) := by decide +kernel
theorem dX7_copyFrom_12 : decode cX7_copyFrom 12 = .ok (.iconst 0, 1) := by decide +kernel
theorem dX7_copyFrom_13 : decode cX7_copyFrom 13 = .ok (.aload_n 0, 1) := by decide +kernel
theorem dX7_copyFrom_14 : decode cX7_copyFrom 14 = .ok (.getfield 15, 3) := by decide +kernel
theorem dX7_copyFrom_17 : decode cX7_copyFrom 17 = .ok (.iconst 0, 1) := by decide +kernel
theorem dX7_copyFrom_18 : decode cX7_copyFrom 18 = .ok (.bipush 40, 2) := by decide +kernel
theorem dX7_copyFrom_20 : decode cX7_copyFrom 20 = .ok (.invokestatic 22, 3) := by decide +kernel
theorem dX7_copyFrom_23 : decode cX7_copyFrom 23 = .ok (.aload_n 1, 1) := by decide +kernel
theorem dX7_copyFrom_24 : decode cX7_copyFrom 24 = .ok (.getfield 19, 3) := by decide +kernel
theorem dX7_copyFrom_27 : decode cX7_copyFrom 27 = .ok (.iconst 0, 1) := by decide +kernel
theorem dX7_copyFrom_28 : decode cX7_copyFrom 28 = .ok (.aload_n 0, 1) := by decide +kernel
theorem dX7_copyFrom_29 : decode cX7_copyFrom 29 = .ok (.getfield 19, 3) := by decide +kernel
theorem dX7_copyFrom_32 : decode cX7_copyFrom 32 = .ok (.iconst 0, 1) := by decide +kernel
theorem dX7_copyFrom_33 : decode cX7_copyFrom 33 = .ok (.bipush 40, 2) := by decide +kernel
theorem dX7_copyFrom_35 : decode cX7_copyFrom 35 = .ok (.invokestatic 22, 3) := by decide +kernel
theorem dX7_copyFrom_38 : decode cX7_copyFrom 38 = .ok (.return_, 1) := by decide +kernel
theorem dX8_init_0 : decode cX8_init 0 = .ok (.aload_n 0, 1) := by decide +kernel
theorem dX8_init_1 : decode cX8_init 1 = .ok (.invokespecial 3, 3) := by decide +kernel
theorem dX8_init_4 : decode cX8_init 4 = .ok (.aload_n 0, 1) := by decide +kernel
theorem dX8_init_5 : decode cX8_init 5 = .ok (.iconst 2, 1) := by decide +kernel
theorem dX8_init_6 : decode cX8_init 6 = .ok (.putfield 9, 3) := by decide +kernel
theorem dX8_init_9 : decode cX8_init 9 = .ok (.aload_n 0, 1) := by decide +kernel
theorem dX8_init_10 : decode cX8_init 10 = .ok (.iconst 0, 1) := by decide +kernel
theorem dX8_init_11 : decode cX8_init 11 = .ok (.putfield 15, 3) := by decide +kernel
theorem dX8_init_14 : decode cX8_init 14 = .ok (.aload_n 0, 1) := by decide +kernel
theorem dX8_init_15 : decode cX8_init 15 = .ok (.iconst 0, 1) := by decide +kernel
theorem dX8_init_16 : decode cX8_init 16 = .ok (.putfield 18, 3) := by decide +kernel
theorem dX8_init_19 : decode cX8_init 19 = .ok (.aload_n 0, 1) := by decide +kernel
theorem dX8_init_20 : decode cX8_init 20 = .ok (.iconst 5, 1) := by decide +kernel
theorem dX8_init_21 : decode cX8_init 21 = .ok (.newarray .int, 2) := by decide +kernel
theorem dX8_init_23 : decode cX8_init 23 = .ok (.putfield 21, 3) := by decide +kernel
theorem dX8_init_26 : decode cX8_init 26 = .ok (.aload_n 0, 1) := by decide +kernel
theorem dX8_init_27 : decode cX8_init 27 = .ok (.iconst 5, 1) := by decide +kernel
theorem dX8_init_28 : decode cX8_init 28 = .ok (.newarray .int, 2) := by decide +kernel
theorem dX8_init_30 : decode cX8_init 30 = .ok (.putfield 25, 3) := by decide +kernel
theorem dX8_init_33 : decode cX8_init 33 = .ok (.aload_n 0, 1) := by decide +kernel
theorem dX8_init_34 : decode cX8_init 34 = .ok (.iconst 5, 1) := by decide +kernel
theorem dX8_init_35 : decode cX8_init 35 = .ok (.newarray .int, 2) := by decide +kernel
theorem dX8_init_37 : decode cX8_init 37 = .ok (.putfield 28, 3) := by decide +kernel
theorem dX8_init_40 : decode cX8_init 40 = .ok (.return_, 1) := by decide +kernel
theorem dX8_clear_0 : decode cX8_clear 0 = .ok (.aload_n 0, 1) := by decide +kernel
theorem dX8_clear_1 : decode cX8_clear 1 = .ok (.iconst 2, 1) := by decide +kernel
theorem dX8_clear_2 : decode cX8_clear 2 = .ok (.putfield 9, 3) := by decide +kernel
theorem dX8_clear_5 : decode cX8_clear 5 = .ok (.aload_n 0, 1) := by decide +kernel
theorem dX8_clear_6 : decode cX8_clear 6 = .ok (.iconst 0, 1) := by decide +kernel
theorem dX8_clear_7 : decode cX8_clear 7 = .ok (.putfield 15, 3) := by decide +kernel
theorem dX8_clear_10 : decode cX8_clear 10 = .ok (.aload_n 0, 1) := by decide +kernel
theorem dX8_clear_11 : decode cX8_clear 11 = .ok (.iconst 0, 1) := by decide +kernel
theorem dX8_clear_12 : decode cX8_clear 12 = .ok (.putfield 18, 3) := by decide +kernel
theorem dX8_clear_15 : decode cX8_clear 15 = .ok (.return_, 1) := by decide +kernel
theorem dX8_add_0 : decode cX8_add 0 = .ok (.aload_n 0, 1) := by decide +kernel
theorem dX8_add_1 : decode cX8_add 1 = .ok (.getfield 18, 3) := by decide +kernel
theorem dX8_add_4 : decode cX8_add 4 = .ok (.iconst 5, 1) := by decide +kernel
theorem dX8_add_5 : decode cX8_add 5 = .ok (.if_icmp .lt 4, 3) := by decide +kernel
theorem dX8_add_8 : decode cX8_add 8 = .ok (.return_, 1) := by decide +kernel
theorem dX8_add_9 : decode cX8_add 9 = .ok (.aload_n 0, 1) := by decide +kernel
theorem dX8_add_10 : decode cX8_add 10 = .ok (.getfield 21, 3) := by decide +kernel
theorem dX8_add_13 : decode cX8_add 13 = .ok (.aload_n 0, 1) := by decide +kernel
theorem dX8_add_14 : decode cX8_add 14 = .ok (.getfield 18, 3) := by decide +kernel
theorem dX8_add_17 : decode cX8_add 17 = .ok (.iload_n 1, 1) := by decide +kernel
theorem dX8_add_18 : decode cX8_add 18 = .ok (.iastore, 1) := by decide +kernel
theorem dX8_add_19 : decode cX8_add 19 = .ok (.aload_n 0, 1) := by decide +kernel
theorem dX8_add_20 : decode cX8_add 20 = .ok (.getfield 25, 3) := by decide +kernel
theorem dX8_add_23 : decode cX8_add 23 = .ok (.aload_n 0, 1) := by decide +kernel
theorem dX8_add_24 : decode cX8_add 24 = .ok (.getfield 18, 3) := by decide +kernel
theorem dX8_add_27 : decode cX8_add 27 = .ok (.iload_n 2, 1) := by decide +kernel
theorem dX8_add_28 : decode cX8_add 28 = .ok (.iastore, 1) := by decide +kernel
theorem dX8_add_29 : decode cX8_add 29 = .ok (.aload_n 0, 1) := by decide +kernel
theorem dX8_add_30 : decode cX8_add 30 = .ok (.getfield 28, 3) := by decide +kernel
theorem dX8_add_33 : decode cX8_add 33 = .ok (.aload_n 0, 1) := by decide +kernel
theorem dX8_add_34 : decode cX8_add 34 = .ok (.getfield 18, 3) := by decide +kernel
theorem dX8_add_37 : decode cX8_add 37 = .ok (.iload_n 3, 1) := by decide +kernel
theorem dX8_add_38 : decode cX8_add 38 = .ok (.iastore, 1) := by decide +kernel
theorem dX8_add_39 : decode cX8_add 39 = .ok (.aload_n 0, 1) := by decide +kernel
theorem dX8_add_40 : decode cX8_add 40 = .ok (.dup, 1) := by decide +kernel
theorem dX8_add_41 : decode cX8_add 41 = .ok (.getfield 18, 3) := by decide +kernel
theorem dX8_add_44 : decode cX8_add 44 = .ok (.iconst 1, 1) := by decide +kernel
theorem dX8_add_45 : decode cX8_add 45 = .ok (.iadd, 1) := by decide +kernel
theorem dX8_add_46 : decode cX8_add 46 = .ok (.putfield 18, 3) := by decide +kernel
theorem dX8_add_49 : decode cX8_add 49 = .ok (.return_, 1) := by decide +kernel
theorem dX8_copyFrom_0 : decode cX8_copyFrom 0 = .ok (.aload_n 0, 1) := by decide +kernel
theorem dX8_copyFrom_1 : decode cX8_copyFrom 1 = .ok (.aload_n 1, 1) := by decide +kernel
theorem dX8_copyFrom_2 : decode cX8_copyFrom 2 = .ok (.getfield 9, 3) := by decide +kernel
theorem dX8_copyFrom_5 : decode cX8_copyFrom 5 = .ok (.putfield 9, 3) := by decide +kernel
theorem dX8_copyFrom_8 : decode cX8_copyFrom 8 = .ok (.aload_n 0, 1) := by decide +kernel
theorem dX8_copyFrom_9 : decode cX8_copyFrom 9 = .ok (.aload_n 1, 1) := by decide +kernel
theorem dX8_copyFrom_10 : decode cX8_copyFrom 10 = .ok (.getfield 15, 3) := by decide +kernel
theorem dX8_copyFrom_13 : decode cX8_copyFrom 13 = .ok (.putfield 15, 3) := by decide +kernel
theorem dX8_copyFrom_16 : decode cX8_copyFrom 16 = .ok (.aload_n 0, 1) := by decide +kernel
theorem dX8_copyFrom_17 : decode cX8_copyFrom 17 = .ok (.aload_n 1, 1) := by decide +kernel
theorem dX8_copyFrom_18 : decode cX8_copyFrom 18 = .ok (.getfield 18, 3) := by decide +kernel
theorem dX8_copyFrom_21 : decode cX8_copyFrom 21 = .ok (.putfield 18, 3) := by decide +kernel
theorem dX8_copyFrom_24 : decode cX8_copyFrom 24 = .ok (.aload_n 1, 1) := by decide +kernel
theorem dX8_copyFrom_25 : decode cX8_copyFrom 25 = .ok (.getfield 21, 3) := by decide +kernel
theorem dX8_copyFrom_28 : decode cX8_copyFrom 28 = .ok (.iconst 0, 1) := by decide +kernel
theorem dX8_copyFrom_29 : decode cX8_copyFrom 29 = .ok (.aload_n 0, 1) := by decide +kernel
theorem dX8_copyFrom_30 : decode cX8_copyFrom 30 = .ok (.getfield 21, 3) := by decide +kernel
theorem dX8_copyFrom_33 : decode cX8_copyFrom 33 = .ok (.iconst 0, 1) := by decide +kernel
theorem dX8_copyFrom_34 : decode cX8_copyFrom 34 = .ok (.iconst 5, 1) := by decide +kernel
theorem dX8_copyFrom_35 : decode cX8_copyFrom 35 = .ok (.invokestatic 31, 3) := by decide +kernel
theorem dX8_copyFrom_38 : decode cX8_copyFrom 38 = .ok (.aload_n 1, 1) := by decide +kernel
theorem dX8_copyFrom_39 : decode cX8_copyFrom 39 = .ok (.getfield 25, 3) := by decide +kernel
theorem dX8_copyFrom_42 : decode cX8_copyFrom 42 = .ok (.iconst 0, 1) := by decide +kernel
theorem dX8_copyFrom_43 : decode cX8_copyFrom 43 = .ok (.aload_n 0, 1) := by decide +kernel
theorem dX8_copyFrom_44 : decode cX8_copyFrom 44 = .ok (.getfield 25, 3) := by decide +kernel
theorem dX8_copyFrom_47 : decode cX8_copyFrom 47 = .ok (.iconst 0, 1) := by decide +kernel
theorem dX8_copyFrom_48 : decode cX8_copyFrom 48 = .ok (.iconst 5, 1) := by decide +kernel
theorem dX8_copyFrom_49 : decode cX8_copyFrom 49 = .ok (.invokestatic 31, 3) := by decide +kernel
theorem dX8_copyFrom_52 : decode cX8_copyFrom 52 = .ok (.aload_n 1, 1) := by decide +kernel
theorem dX8_copyFrom_53 : decode cX8_copyFrom 53 = .ok (.getfield 28, 3) := by decide +kernel
theorem dX8_copyFrom_56 : decode cX8_copyFrom 56 = .ok (.iconst 0, 1) := by decide +kernel
theorem dX8_copyFrom_57 : decode cX8_copyFrom 57 = .ok (.aload_n 0, 1) := by decide +kernel
theorem dX8_copyFrom_58 : decode cX8_copyFrom 58 = .ok (.getfield 28, 3) := by decide +kernel
theorem dX8_copyFrom_61 : decode cX8_copyFrom 61 = .ok (.iconst 0, 1) := by decide +kernel
theorem dX8_copyFrom_62 : decode cX8_copyFrom 62 = .ok (.iconst 5, 1) := by decide +kernel
theorem dX8_copyFrom_63 : decode cX8_copyFrom 63 = .ok (.invokestatic 31, 3) := by decide +kernel
theorem dX8_copyFrom_66 : decode cX8_copyFrom 66 = .ok (.return_, 1) := by decide +kernel
theorem dX8_copySome_0 : decode cX8_copySome 0 = .ok (.aload_n 0, 1) := by decide +kernel
theorem dX8_copySome_1 : decode cX8_copySome 1 = .ok (.aload_n 1, 1) := by decide +kernel
theorem dX8_copySome_2 : decode cX8_copySome 2 = .ok (.getfield 9, 3) := by decide +kernel
theorem dX8_copySome_5 : decode cX8_copySome 5 = .ok (.putfield 9, 3) := by decide +kernel
theorem dX8_copySome_8 : decode cX8_copySome 8 = .ok (.aload_n 0, 1) := by decide +kernel
theorem dX8_copySome_9 : decode cX8_copySome 9 = .ok (.aload_n 1, 1) := by decide +kernel
theorem dX8_copySome_10 : decode cX8_copySome 10 = .ok (.getfield 15, 3) := by decide +kernel
theorem dX8_copySome_13 : decode cX8_copySome 13 = .ok (.putfield 15, 3) := by decide +kernel
theorem dX8_copySome_16 : decode cX8_copySome 16 = .ok (.aload_n 0, 1) := by decide +kernel
theorem dX8_copySome_17 : decode cX8_copySome 17 = .ok (.iconst 0, 1) := by decide +kernel
theorem dX8_copySome_18 : decode cX8_copySome 18 = .ok (.putfield 18, 3) := by decide +kernel
theorem dX8_copySome_21 : decode cX8_copySome 21 = .ok (.iconst 0, 1) := by decide +kernel
theorem dX8_copySome_22 : decode cX8_copySome 22 = .ok (.istore_n 3, 1) := by decide +kernel
theorem dX8_copySome_23 : decode cX8_copySome 23 = .ok (.iload_n 3, 1) := by decide +kernel
theorem dX8_copySome_24 : decode cX8_copySome 24 = .ok (.aload_n 1, 1) := by decide +kernel
theorem dX8_copySome_25 : decode cX8_copySome 25 = .ok (.getfield 18, 3) := by decide +kernel
theorem dX8_copySome_28 : decode cX8_copySome 28 = .ok (.if_icmp .ge 39, 3) := by decide +kernel
theorem dX8_copySome_31 : decode cX8_copySome 31 = .ok (.iload_n 2, 1) := by decide +kernel
theorem dX8_copySome_32 : decode cX8_copySome 32 = .ok (.iload_n 3, 1) := by decide +kernel
theorem dX8_copySome_33 : decode cX8_copySome 33 = .ok (.ishr, 1) := by decide +kernel
theorem dX8_copySome_34 : decode cX8_copySome 34 = .ok (.iconst 1, 1) := by decide +kernel
theorem dX8_copySome_35 : decode cX8_copySome 35 = .ok (.iand, 1) := by decide +kernel
theorem dX8_copySome_36 : decode cX8_copySome 36 = .ok (.ifCond .eq 25, 3) := by decide +kernel
theorem dX8_copySome_39 : decode cX8_copySome 39 = .ok (.aload_n 0, 1) := by decide +kernel
theorem dX8_copySome_40 : decode cX8_copySome 40 = .ok (.aload_n 1, 1) := by decide +kernel
theorem dX8_copySome_41 : decode cX8_copySome 41 = .ok (.getfield 21, 3) := by decide +kernel
theorem dX8_copySome_44 : decode cX8_copySome 44 = .ok (.iload_n 3, 1) := by decide +kernel
theorem dX8_copySome_45 : decode cX8_copySome 45 = .ok (.iaload, 1) := by decide +kernel
theorem dX8_copySome_46 : decode cX8_copySome 46 = .ok (.aload_n 1, 1) := by decide +kernel
theorem dX8_copySome_47 : decode cX8_copySome 47 = .ok (.getfield 25, 3) := by decide +kernel
theorem dX8_copySome_50 : decode cX8_copySome 50 = .ok (.iload_n 3, 1) := by decide +kernel
theorem dX8_copySome_51 : decode cX8_copySome 51 = .ok (.iaload, 1) := by decide +kernel
theorem dX8_copySome_52 : decode cX8_copySome 52 = .ok (.aload_n 1, 1) := by decide +kernel
theorem dX8_copySome_53 : decode cX8_copySome 53 = .ok (.getfield 28, 3) := by decide +kernel
theorem dX8_copySome_56 : decode cX8_copySome 56 = .ok (.iload_n 3, 1) := by decide +kernel
theorem dX8_copySome_57 : decode cX8_copySome 57 = .ok (.iaload, 1) := by decide +kernel
theorem dX8_copySome_58 : decode cX8_copySome 58 = .ok (.invokevirtual 37, 3) := by decide +kernel
theorem dX8_copySome_61 : decode cX8_copySome 61 = .ok (.iinc 3 1, 3) := by decide +kernel
theorem dX8_copySome_64 : decode cX8_copySome 64 = .ok (.goto (-41), 3) := by decide +kernel
theorem dX8_copySome_67 : decode cX8_copySome 67 = .ok (.return_, 1) := by decide +kernel
theorem dX8_isLike_0 : decode cX8_isLike 0 = .ok (.aload_n 0, 1) := by decide +kernel
theorem dX8_isLike_1 : decode cX8_isLike 1 = .ok (.getfield 9, 3) := by decide +kernel
theorem dX8_isLike_4 : decode cX8_isLike 4 = .ok (.aload_n 1, 1) := by decide +kernel
theorem dX8_isLike_5 : decode cX8_isLike 5 = .ok (.getfield 9, 3) := by decide +kernel
theorem dX8_isLike_8 : decode cX8_isLike 8 = .ok (.if_icmp .ne 25, 3) := by decide +kernel
theorem dX8_isLike_11 : decode cX8_isLike 11 = .ok (.aload_n 0, 1) := by decide +kernel
theorem dX8_isLike_12 : decode cX8_isLike 12 = .ok (.getfield 15, 3) := by decide +kernel
theorem dX8_isLike_15 : decode cX8_isLike 15 = .ok (.aload_n 1, 1) := by decide +kernel
theorem dX8_isLike_16 : decode cX8_isLike 16 = .ok (.getfield 15, 3) := by decide +kernel
theorem dX8_isLike_19 : decode cX8_isLike 19 = .ok (.if_icmp .ne 14, 3) := by decide +kernel
theorem dX8_isLike_22 : decode cX8_isLike 22 = .ok (.aload_n 0, 1) := by decide +kernel
theorem dX8_isLike_23 : decode cX8_isLike 23 = .ok (.getfield 18, 3) := by decide +kernel
theorem dX8_isLike_26 : decode cX8_isLike 26 = .ok (.aload_n 1, 1) := by decide +kernel
theorem dX8_isLike_27 : decode cX8_isLike 27 = .ok (.getfield 18, 3) := by decide +kernel
theorem dX8_isLike_30 : decode cX8_isLike 30 = .ok (.if_icmp .eq 5, 3) := by decide +kernel
theorem dX8_isLike_33 : decode cX8_isLike 33 = .ok (.iconst 0, 1) := by decide +kernel
theorem dX8_isLike_34 : decode cX8_isLike 34 = .ok (.ireturn, 1) := by decide +kernel
theorem dX8_isLike_35 : decode cX8_isLike 35 = .ok (.iconst 0, 1) := by decide +kernel
theorem dX8_isLike_36 : decode cX8_isLike 36 = .ok (.istore_n 2, 1) := by decide +kernel
theorem dX8_isLike_37 : decode cX8_isLike 37 = .ok (.iload_n 2, 1) := by decide +kernel
theorem dX8_isLike_38 : decode cX8_isLike 38 = .ok (.aload_n 0, 1) := by decide +kernel
theorem dX8_isLike_39 : decode cX8_isLike 39 = .ok (.getfield 18, 3) := by decide +kernel
theorem dX8_isLike_42 : decode cX8_isLike 42 = .ok (.if_icmp .ge 56, 3) := by decide +kernel
theorem dX8_isLike_45 : decode cX8_isLike 45 = .ok (.aload_n 0, 1) := by decide +kernel
theorem dX8_isLike_46 : decode cX8_isLike 46 = .ok (.getfield 21, 3) := by decide +kernel
theorem dX8_isLike_49 : decode cX8_isLike 49 = .ok (.iload_n 2, 1) := by decide +kernel
theorem dX8_isLike_50 : decode cX8_isLike 50 = .ok (.iaload, 1) := by decide +kernel
theorem dX8_isLike_51 : decode cX8_isLike 51 = .ok (.aload_n 1, 1) := by decide +kernel
theorem dX8_isLike_52 : decode cX8_isLike 52 = .ok (.getfield 21, 3) := by decide +kernel
theorem dX8_isLike_55 : decode cX8_isLike 55 = .ok (.iload_n 2, 1) := by decide +kernel
theorem dX8_isLike_56 : decode cX8_isLike 56 = .ok (.iaload, 1) := by decide +kernel
theorem dX8_isLike_57 : decode cX8_isLike 57 = .ok (.if_icmp .ne 33, 3) := by decide +kernel
theorem dX8_isLike_60 : decode cX8_isLike 60 = .ok (.aload_n 0, 1) := by decide +kernel
theorem dX8_isLike_61 : decode cX8_isLike 61 = .ok (.getfield 25, 3) := by decide +kernel
theorem dX8_isLike_64 : decode cX8_isLike 64 = .ok (.iload_n 2, 1) := by decide +kernel
theorem dX8_isLike_65 : decode cX8_isLike 65 = .ok (.iaload, 1) := by decide +kernel
theorem dX8_isLike_66 : decode cX8_isLike 66 = .ok (.aload_n 1, 1) := by decide +kernel
theorem dX8_isLike_67 : decode cX8_isLike 67 = .ok (.getfield 25, 3) := by decide +kernel
theorem dX8_isLike_70 : decode cX8_isLike 70 = .ok (.iload_n 2, 1) := by decide +kernel
theorem dX8_isLike_71 : decode cX8_isLike 71 = .ok (.iaload, 1) := by decide +kernel
theorem dX8_isLike_72 : decode cX8_isLike 72 = .ok (.if_icmp .ne 18, 3) := by decide +kernel
theorem dX8_isLike_75 : decode cX8_isLike 75 = .ok (.aload_n 0, 1) := by decide +kernel
theorem dX8_isLike_76 : decode cX8_isLike 76 = .ok (.getfield 28, 3) := by decide +kernel
theorem dX8_isLike_79 : decode cX8_isLike 79 = .ok (.iload_n 2, 1) := by decide +kernel
theorem dX8_isLike_80 : decode cX8_isLike 80 = .ok (.iaload, 1) := by decide +kernel
theorem dX8_isLike_81 : decode cX8_isLike 81 = .ok (.aload_n 1, 1) := by decide +kernel
theorem dX8_isLike_82 : decode cX8_isLike 82 = .ok (.getfield 28, 3) := by decide +kernel
theorem dX8_isLike_85 : decode cX8_isLike 85 = .ok (.iload_n 2, 1) := by decide +kernel
theorem dX8_isLike_86 : decode cX8_isLike 86 = .ok (.iaload, 1) := by decide +kernel
theorem dX8_isLike_87 : decode cX8_isLike 87 = .ok (.if_icmp .eq 5, 3) := by decide +kernel
theorem dX8_isLike_90 : decode cX8_isLike 90 = .ok (.iconst 0, 1) := by decide +kernel
theorem dX8_isLike_91 : decode cX8_isLike 91 = .ok (.ireturn, 1) := by decide +kernel
theorem dX8_isLike_92 : decode cX8_isLike 92 = .ok (.iinc 2 1, 3) := by decide +kernel
theorem dX8_isLike_95 : decode cX8_isLike 95 = .ok (.goto (-58), 3) := by decide +kernel
theorem dX8_isLike_98 : decode cX8_isLike 98 = .ok (.iconst 1, 1) := by decide +kernel
theorem dX8_isLike_99 : decode cX8_isLike 99 = .ok (.ireturn, 1) := by decide +kernel
theorem dX8_has_0 : decode cX8_has 0 = .ok (.iload_n 1, 1) := by decide +kernel
theorem dX8_has_1 : decode cX8_has 1 = .ok (.ifCond .lt 15, 3) := by decide +kernel
theorem dX8_has_4 : decode cX8_has 4 = .ok (.iload_n 1, 1) := by decide +kernel
theorem dX8_has_5 : decode cX8_has 5 = .ok (.aload_n 0, 1) := by decide +kernel
theorem dX8_has_6 : decode cX8_has 6 = .ok (.getfield 18, 3) := by decide +kernel
theorem dX8_has_9 : decode cX8_has 9 = .ok (.if_icmp .ge 7, 3) := by decide +kernel
theorem dX8_has_12 : decode cX8_has 12 = .ok (.iconst 1, 1) := by decide +kernel
theorem dX8_has_13 : decode cX8_has 13 = .ok (.goto 4, 3) := by decide +kernel
theorem dX8_has_16 : decode cX8_has 16 = .ok (.iconst 0, 1) := by decide +kernel
theorem dX8_has_17 : decode cX8_has 17 = .ok (.ireturn, 1) := by decide +kernel
theorem dX8_plateFact_0 : decode cX8_plateFact 0 = .ok (.iload_n 1, 1) := by decide +kernel
theorem dX8_plateFact_1 : decode cX8_plateFact 1 = .ok (.bipush 10, 2) := by decide +kernel
theorem dX8_plateFact_3 : decode cX8_plateFact 3 = .ok (.irem, 1) := by decide +kernel
theorem dX8_plateFact_4 : decode cX8_plateFact 4 = .ok (.istore_n 2, 1) := by decide +kernel
theorem dX8_plateFact_5 : decode cX8_plateFact 5 = .ok (.aload_n 0, 1) := by decide +kernel
theorem dX8_plateFact_6 : decode cX8_plateFact 6 = .ok (.iload_n 2, 1) := by decide +kernel
theorem dX8_plateFact_7 : decode cX8_plateFact 7 = .ok (.invokevirtual 41, 3) := by decide +kernel
theorem dX8_plateFact_10 : decode cX8_plateFact 10 = .ok (.ifCond .ne 5, 3) := by decide +kernel
theorem dX8_plateFact_13 : decode cX8_plateFact 13 = .ok (.iconst (-1), 1) := by decide +kernel
theorem dX8_plateFact_14 : decode cX8_plateFact 14 = .ok (.ireturn, 1) := by decide +kernel
theorem dX8_plateFact_15 : decode cX8_plateFact 15 = .ok (.iload_n 1, 1) := by decide +kernel
theorem dX8_plateFact_16 : decode cX8_plateFact 16 = .ok (.bipush 10, 2) := by decide +kernel
theorem dX8_plateFact_18 : decode cX8_plateFact 18 = .ok (.idiv, 1) := by decide +kernel
theorem dX8_plateFact_19 : decode cX8_plateFact 19 = .ok (.tableswitch 46 1 3 #[25, 32, 39], 25) := by decide +kernel
theorem dX8_plateFact_44 : decode cX8_plateFact 44 = .ok (.aload_n 0, 1) := by decide +kernel
theorem dX8_plateFact_45 : decode cX8_plateFact 45 = .ok (.getfield 21, 3) := by decide +kernel
theorem dX8_plateFact_48 : decode cX8_plateFact 48 = .ok (.iload_n 2, 1) := by decide +kernel
theorem dX8_plateFact_49 : decode cX8_plateFact 49 = .ok (.iaload, 1) := by decide +kernel
theorem dX8_plateFact_50 : decode cX8_plateFact 50 = .ok (.ireturn, 1) := by decide +kernel
theorem dX8_plateFact_51 : decode cX8_plateFact 51 = .ok (.aload_n 0, 1) := by decide +kernel
theorem dX8_plateFact_52 : decode cX8_plateFact 52 = .ok (.getfield 25, 3) := by decide +kernel
theorem dX8_plateFact_55 : decode cX8_plateFact 55 = .ok (.iload_n 2, 1) := by decide +kernel
theorem dX8_plateFact_56 : decode cX8_plateFact 56 = .ok (.iaload, 1) := by decide +kernel
theorem dX8_plateFact_57 : decode cX8_plateFact 57 = .ok (.ireturn, 1) := by decide +kernel
theorem dX8_plateFact_58 : decode cX8_plateFact 58 = .ok (.aload_n 0, 1) := by decide +kernel
theorem dX8_plateFact_59 : decode cX8_plateFact 59 = .ok (.getfield 28, 3) := by decide +kernel
theorem dX8_plateFact_62 : decode cX8_plateFact 62 = .ok (.iload_n 2, 1) := by decide +kernel
theorem dX8_plateFact_63 : decode cX8_plateFact 63 = .ok (.iaload, 1) := by decide +kernel
theorem dX8_plateFact_64 : decode cX8_plateFact 64 = .ok (.ireturn, 1) := by decide +kernel
theorem dX8_plateFact_65 : decode cX8_plateFact 65 = .ok (.iconst (-1), 1) := by decide +kernel
theorem dX8_plateFact_66 : decode cX8_plateFact 66 = .ok (.ireturn, 1) := by decide +kernel
theorem dX8_way_0 : decode cX8_way 0 = .ok (.iconst 1, 1) := by decide +kernel
theorem dX8_way_1 : decode cX8_way 1 = .ok (.aload_n 0, 1) := by decide +kernel
theorem dX8_way_2 : decode cX8_way 2 = .ok (.getfield 9, 3) := by decide +kernel
theorem dX8_way_5 : decode cX8_way 5 = .ok (.invokestatic 45, 3) := by decide +kernel
theorem dX8_way_8 : decode cX8_way 8 = .ok (.istore_n 3, 1) := by decide +kernel
theorem dX8_way_9 : decode cX8_way 9 = .ok (.iload_n 1, 1) := by decide +kernel
theorem dX8_way_10 : decode cX8_way 10 = .ok (.iload_n 2, 1) := by decide +kernel
theorem dX8_way_11 : decode cX8_way 11 = .ok (.isub, 1) := by decide +kernel
theorem dX8_way_12 : decode cX8_way 12 = .ok (.invokestatic 51, 3) := by decide +kernel
theorem dX8_way_15 : decode cX8_way 15 = .ok (.iload_n 3, 1) := by decide +kernel
theorem dX8_way_16 : decode cX8_way 16 = .ok (.iadd, 1) := by decide +kernel
theorem dX8_way_17 : decode cX8_way 17 = .ok (.iconst 1, 1) := by decide +kernel
theorem dX8_way_18 : decode cX8_way 18 = .ok (.isub, 1) := by decide +kernel
theorem dX8_way_19 : decode cX8_way 19 = .ok (.iload_n 3, 1) := by decide +kernel
theorem dX8_way_20 : decode cX8_way 20 = .ok (.idiv, 1) := by decide +kernel
theorem dX8_way_21 : decode cX8_way 21 = .ok (.ireturn, 1) := by decide +kernel
theorem dX8_packed_0 : decode cX8_packed 0 = .ok (.iconst 0, 1) := by decide +kernel
theorem dX8_packed_1 : decode cX8_packed 1 = .ok (.istore_n 1, 1) := by decide +kernel
theorem dX8_packed_2 : decode cX8_packed 2 = .ok (.iconst 0, 1) := by decide +kernel
theorem dX8_packed_3 : decode cX8_packed 3 = .ok (.istore_n 2, 1) := by decide +kernel
theorem dX8_packed_4 : decode cX8_packed 4 = .ok (.iload_n 2, 1) := by decide +kernel
theorem dX8_packed_5 : decode cX8_packed 5 = .ok (.aload_n 0, 1) := by decide +kernel
theorem dX8_packed_6 : decode cX8_packed 6 = .ok (.getfield 18, 3) := by decide +kernel
theorem dX8_packed_9 : decode cX8_packed 9 = .ok (.if_icmp .ge 21, 3) := by decide +kernel
theorem dX8_packed_12 : decode cX8_packed 12 = .ok (.iload_n 1, 1) := by decide +kernel
theorem dX8_packed_13 : decode cX8_packed 13 = .ok (.iload_n 2, 1) := by decide +kernel
theorem dX8_packed_14 : decode cX8_packed 14 = .ok (.aload_n 0, 1) := by decide +kernel
theorem dX8_packed_15 : decode cX8_packed 15 = .ok (.getfield 28, 3) := by decide +kernel
theorem dX8_packed_18 : decode cX8_packed 18 = .ok (.iload_n 2, 1) := by decide +kernel
theorem dX8_packed_19 : decode cX8_packed 19 = .ok (.iaload, 1) := by decide +kernel
theorem dX8_packed_20 : decode cX8_packed 20 = .ok (.invokestatic 55, 3) := by decide +kernel
theorem dX8_packed_23 : decode cX8_packed 23 = .ok (.istore_n 1, 1) := by decide +kernel
theorem dX8_packed_24 : decode cX8_packed 24 = .ok (.iinc 2 1, 3) := by decide +kernel
theorem dX8_packed_27 : decode cX8_packed 27 = .ok (.goto (-23), 3) := by decide +kernel
theorem dX8_packed_30 : decode cX8_packed 30 = .ok (.iload_n 1, 1) := by decide +kernel
theorem dX8_packed_31 : decode cX8_packed 31 = .ok (.ireturn, 1) := by decide +kernel
theorem dX8_loadPart_0 : decode cX8_loadPart 0 = .ok (.iconst 0, 1) := by decide +kernel
theorem dX8_loadPart_1 : decode cX8_loadPart 1 = .ok (.istore_n 2, 1) := by decide +kernel
theorem dX8_loadPart_2 : decode cX8_loadPart 2 = .ok (.iconst 0, 1) := by decide +kernel
theorem dX8_loadPart_3 : decode cX8_loadPart 3 = .ok (.istore_n 3, 1) := by decide +kernel
theorem dX8_loadPart_4 : decode cX8_loadPart 4 = .ok (.iload_n 3, 1) := by decide +kernel
theorem dX8_loadPart_5 : decode cX8_loadPart 5 = .ok (.aload_n 0, 1) := by decide +kernel
theorem dX8_loadPart_6 : decode cX8_loadPart 6 = .ok (.getfield 18, 3) := by decide +kernel
theorem dX8_loadPart_9 : decode cX8_loadPart 9 = .ok (.if_icmp .ge 25, 3) := by decide +kernel
theorem dX8_loadPart_12 : decode cX8_loadPart 12 = .ok (.iload_n 2, 1) := by decide +kernel
theorem dX8_loadPart_13 : decode cX8_loadPart 13 = .ok (.bipush 60, 2) := by decide +kernel
theorem dX8_loadPart_15 : decode cX8_loadPart 15 = .ok (.iconst 1, 1) := by decide +kernel
theorem dX8_loadPart_16 : decode cX8_loadPart 16 = .ok (.aload_n 0, 1) := by decide +kernel
theorem dX8_loadPart_17 : decode cX8_loadPart 17 = .ok (.getfield 25, 3) := by decide +kernel
theorem dX8_loadPart_20 : decode cX8_loadPart 20 = .ok (.iload_n 3, 1) := by decide +kernel
theorem dX8_loadPart_21 : decode cX8_loadPart 21 = .ok (.iaload, 1) := by decide +kernel
theorem dX8_loadPart_22 : decode cX8_loadPart 22 = .ok (.invokestatic 45, 3) := by decide +kernel
theorem dX8_loadPart_25 : decode cX8_loadPart 25 = .ok (.idiv, 1) := by decide +kernel
theorem dX8_loadPart_26 : decode cX8_loadPart 26 = .ok (.iadd, 1) := by decide +kernel
theorem dX8_loadPart_27 : decode cX8_loadPart 27 = .ok (.istore_n 2, 1) := by decide +kernel
theorem dX8_loadPart_28 : decode cX8_loadPart 28 = .ok (.iinc 3 1, 3) := by decide +kernel
theorem dX8_loadPart_31 : decode cX8_loadPart 31 = .ok (.goto (-27), 3) := by decide +kernel
theorem dX8_loadPart_34 : decode cX8_loadPart 34 = .ok (.iconst 1, 1) := by decide +kernel
theorem dX8_loadPart_35 : decode cX8_loadPart 35 = .ok (.iload_n 2, 1) := by decide +kernel
theorem dX8_loadPart_36 : decode cX8_loadPart 36 = .ok (.bipush 60, 2) := by decide +kernel
theorem dX8_loadPart_38 : decode cX8_loadPart 38 = .ok (.invokestatic 61, 3) := by decide +kernel
theorem dX8_loadPart_41 : decode cX8_loadPart 41 = .ok (.invokestatic 45, 3) := by decide +kernel
theorem dX8_loadPart_44 : decode cX8_loadPart 44 = .ok (.istore_n 3, 1) := by decide +kernel
theorem dX8_loadPart_45 : decode cX8_loadPart 45 = .ok (.iload_n 1, 1) := by decide +kernel
theorem dX8_loadPart_46 : decode cX8_loadPart 46 = .ok (.ifCond .eq 8, 3) := by decide +kernel
theorem dX8_loadPart_49 : decode cX8_loadPart 49 = .ok (.bipush 60, 2) := by decide +kernel
theorem dX8_loadPart_51 : decode cX8_loadPart 51 = .ok (.goto 4, 3) := by decide +kernel
theorem dX8_loadPart_54 : decode cX8_loadPart 54 = .ok (.iload_n 2, 1) := by decide +kernel
theorem dX8_loadPart_55 : decode cX8_loadPart 55 = .ok (.iload_n 3, 1) := by decide +kernel
theorem dX8_loadPart_56 : decode cX8_loadPart 56 = .ok (.idiv, 1) := by decide +kernel
theorem dX8_loadPart_57 : decode cX8_loadPart 57 = .ok (.ireturn, 1) := by decide +kernel
theorem dX8_span_0 : decode cX8_span 0 = .ok (.aload_n 0, 1) := by decide +kernel
theorem dX8_span_1 : decode cX8_span 1 = .ok (.getfield 18, 3) := by decide +kernel
theorem dX8_span_4 : decode cX8_span 4 = .ok (.ifCond .ne 5, 3) := by decide +kernel
theorem dX8_span_7 : decode cX8_span 7 = .ok (.iconst 0, 1) := by decide +kernel
theorem dX8_span_8 : decode cX8_span 8 = .ok (.ireturn, 1) := by decide +kernel
theorem dX8_span_9 : decode cX8_span 9 = .ok (.aload_n 0, 1) := by decide +kernel
theorem dX8_span_10 : decode cX8_span 10 = .ok (.getfield 21, 3) := by decide +kernel
theorem dX8_span_13 : decode cX8_span 13 = .ok (.iconst 0, 1) := by decide +kernel
theorem dX8_span_14 : decode cX8_span 14 = .ok (.iaload, 1) := by decide +kernel
theorem dX8_span_15 : decode cX8_span 15 = .ok (.istore_n 1, 1) := by decide +kernel
theorem dX8_span_16 : decode cX8_span 16 = .ok (.aload_n 0, 1) := by decide +kernel
theorem dX8_span_17 : decode cX8_span 17 = .ok (.getfield 21, 3) := by decide +kernel
theorem dX8_span_20 : decode cX8_span 20 = .ok (.iconst 0, 1) := by decide +kernel
theorem dX8_span_21 : decode cX8_span 21 = .ok (.iaload, 1) := by decide +kernel
theorem dX8_span_22 : decode cX8_span 22 = .ok (.istore_n 2, 1) := by decide +kernel
theorem dX8_span_23 : decode cX8_span 23 = .ok (.iconst 1, 1) := by decide +kernel
theorem dX8_span_24 : decode cX8_span 24 = .ok (.istore_n 3, 1) := by decide +kernel
theorem dX8_span_25 : decode cX8_span 25 = .ok (.iload_n 3, 1) := by decide +kernel
theorem dX8_span_26 : decode cX8_span 26 = .ok (.aload_n 0, 1) := by decide +kernel
theorem dX8_span_27 : decode cX8_span 27 = .ok (.getfield 18, 3) := by decide +kernel
theorem dX8_span_30 : decode cX8_span 30 = .ok (.if_icmp .ge 31, 3) := by decide +kernel
theorem dX8_span_33 : decode cX8_span 33 = .ok (.iload_n 1, 1) := by decide +kernel
theorem dX8_span_34 : decode cX8_span 34 = .ok (.aload_n 0, 1) := by decide +kernel
theorem dX8_span_35 : decode cX8_span 35 = .ok (.getfield 21, 3) := by decide +kernel
theorem dX8_span_38 : decode cX8_span 38 = .ok (.iload_n 3, 1) := by decide +kernel
theorem dX8_span_39 : decode cX8_span 39 = .ok (.iaload, 1) := by decide +kernel
theorem dX8_span_40 : decode cX8_span 40 = .ok (.invokestatic 64, 3) := by decide +kernel
theorem dX8_span_43 : decode cX8_span 43 = .ok (.istore_n 1, 1) := by decide +kernel
theorem dX8_span_44 : decode cX8_span 44 = .ok (.iload_n 2, 1) := by decide +kernel
theorem dX8_span_45 : decode cX8_span 45 = .ok (.aload_n 0, 1) := by decide +kernel
theorem dX8_span_46 : decode cX8_span 46 = .ok (.getfield 21, 3) := by decide +kernel
theorem dX8_span_49 : decode cX8_span 49 = .ok (.iload_n 3, 1) := by decide +kernel
theorem dX8_span_50 : decode cX8_span 50 = .ok (.iaload, 1) := by decide +kernel
theorem dX8_span_51 : decode cX8_span 51 = .ok (.invokestatic 45, 3) := by decide +kernel
theorem dX8_span_54 : decode cX8_span 54 = .ok (.istore_n 2, 1) := by decide +kernel
theorem dX8_span_55 : decode cX8_span 55 = .ok (.iinc 3 1, 3) := by decide +kernel
theorem dX8_span_58 : decode cX8_span 58 = .ok (.goto (-33), 3) := by decide +kernel
theorem dX8_span_61 : decode cX8_span 61 = .ok (.iload_n 2, 1) := by decide +kernel
theorem dX8_span_62 : decode cX8_span 62 = .ok (.iload_n 1, 1) := by decide +kernel
theorem dX8_span_63 : decode cX8_span 63 = .ok (.isub, 1) := by decide +kernel
theorem dX8_span_64 : decode cX8_span 64 = .ok (.ireturn, 1) := by decide +kernel
theorem dX8_closeCouples_0 : decode cX8_closeCouples 0 = .ok (.iconst 0, 1) := by decide +kernel
theorem dX8_closeCouples_1 : decode cX8_closeCouples 1 = .ok (.istore_n 1, 1) := by decide +kernel
theorem dX8_closeCouples_2 : decode cX8_closeCouples 2 = .ok (.iconst 0, 1) := by decide +kernel
theorem dX8_closeCouples_3 : decode cX8_closeCouples 3 = .ok (.istore_n 2, 1) := by decide +kernel
theorem dX8_closeCouples_4 : decode cX8_closeCouples 4 = .ok (.iload_n 2, 1) := by decide +kernel
theorem dX8_closeCouples_5 : decode cX8_closeCouples 5 = .ok (.aload_n 0, 1) := by decide +kernel
theorem dX8_closeCouples_6 : decode cX8_closeCouples 6 = .ok (.getfield 18, 3) := by decide +kernel
theorem dX8_closeCouples_9 : decode cX8_closeCouples 9 = .ok (.if_icmp .ge 45, 3) := by decide +kernel
theorem dX8_closeCouples_12 : decode cX8_closeCouples 12 = .ok (.iload_n 2, 1) := by decide +kernel
theorem dX8_closeCouples_13 : decode cX8_closeCouples 13 = .ok (.iconst 1, 1) := by decide +kernel
theorem dX8_closeCouples_14 : decode cX8_closeCouples 14 = .ok (.iadd, 1) := by decide +kernel
theorem dX8_closeCouples_15 : decode cX8_closeCouples 15 = .ok (.istore_n 3, 1) := by decide +kernel
theorem dX8_closeCouples_16 : decode cX8_closeCouples 16 = .ok (.iload_n 3, 1) := by decide +kernel
theorem dX8_closeCouples_17 : decode cX8_closeCouples 17 = .ok (.aload_n 0, 1) := by decide +kernel
theorem dX8_closeCouples_18 : decode cX8_closeCouples 18 = .ok (.getfield 18, 3) := by decide +kernel
theorem dX8_closeCouples_21 : decode cX8_closeCouples 21 = .ok (.if_icmp .ge 27, 3) := by decide +kernel
theorem dX8_closeCouples_24 : decode cX8_closeCouples 24 = .ok (.aload_n 0, 1) := by decide +kernel
theorem dX8_closeCouples_25 : decode cX8_closeCouples 25 = .ok (.getfield 21, 3) := by decide +kernel
theorem dX8_closeCouples_28 : decode cX8_closeCouples 28 = .ok (.iload_n 2, 1) := by decide +kernel
theorem dX8_closeCouples_29 : decode cX8_closeCouples 29 = .ok (.iaload, 1) := by decide +kernel
theorem dX8_closeCouples_30 : decode cX8_closeCouples 30 = .ok (.aload_n 0, 1) := by decide +kernel
theorem dX8_closeCouples_31 : decode cX8_closeCouples 31 = .ok (.getfield 21, 3) := by decide +kernel
theorem dX8_closeCouples_34 : decode cX8_closeCouples 34 = .ok (.iload_n 3, 1) := by decide +kernel
theorem dX8_closeCouples_35 : decode cX8_closeCouples 35 = .ok (.iaload, 1) := by decide +kernel
theorem dX8_closeCouples_36 : decode cX8_closeCouples 36 = .ok (.if_icmp .ne 6, 3) := by decide +kernel
theorem dX8_closeCouples_39 : decode cX8_closeCouples 39 = .ok (.iinc 1 1, 3) := by decide +kernel
theorem dX8_closeCouples_42 : decode cX8_closeCouples 42 = .ok (.iinc 3 1, 3) := by decide +kernel
theorem dX8_closeCouples_45 : decode cX8_closeCouples 45 = .ok (.goto (-29), 3) := by decide +kernel
theorem dX8_closeCouples_48 : decode cX8_closeCouples 48 = .ok (.iinc 2 1, 3) := by decide +kernel
theorem dX8_closeCouples_51 : decode cX8_closeCouples 51 = .ok (.goto (-47), 3) := by decide +kernel
theorem dX8_closeCouples_54 : decode cX8_closeCouples 54 = .ok (.iload_n 1, 1) := by decide +kernel
theorem dX8_closeCouples_55 : decode cX8_closeCouples 55 = .ok (.ireturn, 1) := by decide +kernel
theorem dX8_latePlates_0 : decode cX8_latePlates 0 = .ok (.iconst 0, 1) := by decide +kernel
theorem dX8_latePlates_1 : decode cX8_latePlates 1 = .ok (.istore_n 1, 1) := by decide +kernel
theorem dX8_latePlates_2 : decode cX8_latePlates 2 = .ok (.iconst 0, 1) := by decide +kernel
theorem dX8_latePlates_3 : decode cX8_latePlates 3 = .ok (.istore_n 2, 1) := by decide +kernel
theorem dX8_latePlates_4 : decode cX8_latePlates 4 = .ok (.iload_n 2, 1) := by decide +kernel
theorem dX8_latePlates_5 : decode cX8_latePlates 5 = .ok (.aload_n 0, 1) := by decide +kernel
theorem dX8_latePlates_6 : decode cX8_latePlates 6 = .ok (.getfield 18, 3) := by decide +kernel
theorem dX8_latePlates_9 : decode cX8_latePlates 9 = .ok (.if_icmp .ge 38, 3) := by decide +kernel
theorem dX8_latePlates_12 : decode cX8_latePlates 12 = .ok (.aload_n 0, 1) := by decide +kernel
theorem dX8_latePlates_13 : decode cX8_latePlates 13 = .ok (.getfield 28, 3) := by decide +kernel
theorem dX8_latePlates_16 : decode cX8_latePlates 16 = .ok (.iload_n 2, 1) := by decide +kernel
theorem dX8_latePlates_17 : decode cX8_latePlates 17 = .ok (.iaload, 1) := by decide +kernel
theorem dX8_latePlates_18 : decode cX8_latePlates 18 = .ok (.aload_n 0, 1) := by decide +kernel
theorem dX8_latePlates_19 : decode cX8_latePlates 19 = .ok (.aload_n 0, 1) := by decide +kernel
theorem dX8_latePlates_20 : decode cX8_latePlates 20 = .ok (.getfield 15, 3) := by decide +kernel
theorem dX8_latePlates_23 : decode cX8_latePlates 23 = .ok (.aload_n 0, 1) := by decide +kernel
theorem dX8_latePlates_24 : decode cX8_latePlates 24 = .ok (.getfield 21, 3) := by decide +kernel
theorem dX8_latePlates_27 : decode cX8_latePlates 27 = .ok (.iload_n 2, 1) := by decide +kernel
theorem dX8_latePlates_28 : decode cX8_latePlates 28 = .ok (.iaload, 1) := by decide +kernel
theorem dX8_latePlates_29 : decode cX8_latePlates 29 = .ok (.invokevirtual 67, 3) := by decide +kernel
theorem dX8_latePlates_32 : decode cX8_latePlates 32 = .ok (.if_icmp .gt 9, 3) := by decide +kernel
theorem dX8_latePlates_35 : decode cX8_latePlates 35 = .ok (.iload_n 1, 1) := by decide +kernel
theorem dX8_latePlates_36 : decode cX8_latePlates 36 = .ok (.iconst 1, 1) := by decide +kernel
theorem dX8_latePlates_37 : decode cX8_latePlates 37 = .ok (.iload_n 2, 1) := by decide +kernel
theorem dX8_latePlates_38 : decode cX8_latePlates 38 = .ok (.ishl, 1) := by decide +kernel
theorem dX8_latePlates_39 : decode cX8_latePlates 39 = .ok (.ior, 1) := by decide +kernel
theorem dX8_latePlates_40 : decode cX8_latePlates 40 = .ok (.istore_n 1, 1) := by decide +kernel
theorem dX8_latePlates_41 : decode cX8_latePlates 41 = .ok (.iinc 2 1, 3) := by decide +kernel
theorem dX8_latePlates_44 : decode cX8_latePlates 44 = .ok (.goto (-40), 3) := by decide +kernel
theorem dX8_latePlates_47 : decode cX8_latePlates 47 = .ok (.iload_n 1, 1) := by decide +kernel
theorem dX8_latePlates_48 : decode cX8_latePlates 48 = .ok (.ireturn, 1) := by decide +kernel
theorem dX8_waysFrom_0 : decode cX8_waysFrom 0 = .ok (.iconst 0, 1) := by decide +kernel
theorem dX8_waysFrom_1 : decode cX8_waysFrom 1 = .ok (.istore_n 2, 1) := by decide +kernel
theorem dX8_waysFrom_2 : decode cX8_waysFrom 2 = .ok (.iconst 0, 1) := by decide +kernel
theorem dX8_waysFrom_3 : decode cX8_waysFrom 3 = .ok (.istore_n 3, 1) := by decide +kernel
theorem dX8_waysFrom_4 : decode cX8_waysFrom 4 = .ok (.iload_n 3, 1) := by decide +kernel
theorem dX8_waysFrom_5 : decode cX8_waysFrom 5 = .ok (.aload_n 0, 1) := by decide +kernel
theorem dX8_waysFrom_6 : decode cX8_waysFrom 6 = .ok (.getfield 18, 3) := by decide +kernel
theorem dX8_waysFrom_9 : decode cX8_waysFrom 9 = .ok (.if_icmp .ge 23, 3) := by decide +kernel
theorem dX8_waysFrom_12 : decode cX8_waysFrom 12 = .ok (.iload_n 2, 1) := by decide +kernel
theorem dX8_waysFrom_13 : decode cX8_waysFrom 13 = .ok (.aload_n 0, 1) := by decide +kernel
theorem dX8_waysFrom_14 : decode cX8_waysFrom 14 = .ok (.iload_n 1, 1) := by decide +kernel
theorem dX8_waysFrom_15 : decode cX8_waysFrom 15 = .ok (.aload_n 0, 1) := by decide +kernel
theorem dX8_waysFrom_16 : decode cX8_waysFrom 16 = .ok (.getfield 21, 3) := by decide +kernel
theorem dX8_waysFrom_19 : decode cX8_waysFrom 19 = .ok (.iload_n 3, 1) := by decide +kernel
theorem dX8_waysFrom_20 : decode cX8_waysFrom 20 = .ok (.iaload, 1) := by decide +kernel
theorem dX8_waysFrom_21 : decode cX8_waysFrom 21 = .ok (.invokevirtual 67, 3) := by decide +kernel
theorem dX8_waysFrom_24 : decode cX8_waysFrom 24 = .ok (.iadd, 1) := by decide +kernel
theorem dX8_waysFrom_25 : decode cX8_waysFrom 25 = .ok (.istore_n 2, 1) := by decide +kernel
theorem dX8_waysFrom_26 : decode cX8_waysFrom 26 = .ok (.iinc 3 1, 3) := by decide +kernel
theorem dX8_waysFrom_29 : decode cX8_waysFrom 29 = .ok (.goto (-25), 3) := by decide +kernel
theorem dX8_waysFrom_32 : decode cX8_waysFrom 32 = .ok (.iload_n 2, 1) := by decide +kernel
