theorem dX12_init_133 : decode cX12_init 133 = .ok (.putfield 60, 3) := by decide +kernel
theorem dX12_init_136 : decode cX12_init 136 = .ok (.aload_n 0, 1) := by decide +kernel
theorem dX12_init_137 : decode cX12_init 137 = .ok (.ldc 56, 2) := by decide +kernel
theorem dX12_init_139 : decode cX12_init 139 = .ok (.newarray .int, 2) := by decide +kernel
theorem dX12_init_141 : decode cX12_init 141 = .ok (.putfield 63, 3) := by decide +kernel
theorem dX12_init_144 : decode cX12_init 144 = .ok (.aload_n 0, 1) := by decide +kernel
theorem dX12_init_145 : decode cX12_init 145 = .ok (.ldc 56, 2) := by decide +kernel
theorem dX12_init_147 : decode cX12_init 147 = .ok (.newarray .int, 2) := by decide +kernel
theorem dX12_init_149 : decode cX12_init 149 = .ok (.putfield 66, 3) := by decide +kernel
theorem dX12_init_152 : decode cX12_init 152 = .ok (.aload_n 0, 1) := by decide +kernel
theorem dX12_init_153 : decode cX12_init 153 = .ok (.ldc 56, 2) := by decide +kernel
theorem dX12_init_155 : decode cX12_init 155 = .ok (.newarray .int, 2) := by decide +kernel
theorem dX12_init_157 : decode cX12_init 157 = .ok (.putfield 69, 3) := by decide +kernel
theorem dX12_init_160 : decode cX12_init 160 = .ok (.aload_n 0, 1) := by decide +kernel
theorem dX12_init_161 : decode cX12_init 161 = .ok (.iconst 5, 1) := by decide +kernel
theorem dX12_init_162 : decode cX12_init 162 = .ok (.newarray .int, 2) := by decide +kernel
theorem dX12_init_164 : decode cX12_init 164 = .ok (.putfield 72, 3) := by decide +kernel
theorem dX12_init_167 : decode cX12_init 167 = .ok (.aload_n 0, 1) := by decide +kernel
theorem dX12_init_168 : decode cX12_init 168 = .ok (.sipush 216, 3) := by decide +kernel
theorem dX12_init_171 : decode cX12_init 171 = .ok (.newarray .int, 2) := by decide +kernel
theorem dX12_init_173 : decode cX12_init 173 = .ok (.putfield 75, 3) := by decide +kernel
theorem dX12_init_176 : decode cX12_init 176 = .ok (.aload_n 0, 1) := by decide +kernel
theorem dX12_init_177 : decode cX12_init 177 = .ok (.iconst 4, 1) := by decide +kernel
theorem dX12_init_178 : decode cX12_init 178 = .ok (.newarray .int, 2) := by decide +kernel
theorem dX12_init_180 : decode cX12_init 180 = .ok (.putfield 78, 3) := by decide +kernel
theorem dX12_init_183 : decode cX12_init 183 = .ok (.aload_n 0, 1) := by decide +kernel
theorem dX12_init_184 : decode cX12_init 184 = .ok (.bipush 105, 2) := by decide +kernel
theorem dX12_init_186 : decode cX12_init 186 = .ok (.newarray .int, 2) := by decide +kernel
theorem dX12_init_188 : decode cX12_init 188 = .ok (.putfield 81, 3) := by decide +kernel
theorem dX12_init_191 : decode cX12_init 191 = .ok (.aload_n 0, 1) := by decide +kernel
theorem dX12_init_192 : decode cX12_init 192 = .ok (.iconst 3, 1) := by decide +kernel
theorem dX12_init_193 : decode cX12_init 193 = .ok (.newarray .boolean, 2) := by decide +kernel
theorem dX12_init_195 : decode cX12_init 195 = .ok (.putfield 84, 3) := by decide +kernel
theorem dX12_init_198 : decode cX12_init 198 = .ok (.aload_n 0, 1) := by decide +kernel
theorem dX12_init_199 : decode cX12_init 199 = .ok (.getfield 20, 3) := by decide +kernel
theorem dX12_init_202 : decode cX12_init 202 = .ok (.iconst 0, 1) := by decide +kernel
theorem dX12_init_203 : decode cX12_init 203 = .ok (.iconst (-1), 1) := by decide +kernel
theorem dX12_init_204 : decode cX12_init 204 = .ok (.iastore, 1) := by decide +kernel
theorem dX12_init_205 : decode cX12_init 205 = .ok (.return_, 1) := by decide +kernel
theorem dX12_in_0 : decode cX12_in 0 = .ok (.iload_n 0, 1) := by decide +kernel
theorem dX12_in_1 : decode cX12_in 1 = .ok (.iload_n 1, 1) := by decide +kernel
theorem dX12_in_2 : decode cX12_in 2 = .ok (.if_icmp .lt 12, 3) := by decide +kernel
theorem dX12_in_5 : decode cX12_in 5 = .ok (.iload_n 0, 1) := by decide +kernel
theorem dX12_in_6 : decode cX12_in 6 = .ok (.iload_n 2, 1) := by decide +kernel
theorem dX12_in_7 : decode cX12_in 7 = .ok (.if_icmp .gt 7, 3) := by decide +kernel
theorem dX12_in_10 : decode cX12_in 10 = .ok (.iconst 1, 1) := by decide +kernel
theorem dX12_in_11 : decode cX12_in 11 = .ok (.goto 4, 3) := by decide +kernel
theorem dX12_in_14 : decode cX12_in 14 = .ok (.iconst 0, 1) := by decide +kernel
theorem dX12_in_15 : decode cX12_in 15 = .ok (.ireturn, 1) := by decide +kernel
theorem dX12_has_0 : decode cX12_has 0 = .ok (.iload_n 0, 1) := by decide +kernel
theorem dX12_has_1 : decode cX12_has 1 = .ok (.iload_n 1, 1) := by decide +kernel
theorem dX12_has_2 : decode cX12_has 2 = .ok (.ishr, 1) := by decide +kernel
theorem dX12_has_3 : decode cX12_has 3 = .ok (.iconst 1, 1) := by decide +kernel
theorem dX12_has_4 : decode cX12_has 4 = .ok (.iand, 1) := by decide +kernel
theorem dX12_has_5 : decode cX12_has 5 = .ok (.iconst 1, 1) := by decide +kernel
theorem dX12_has_6 : decode cX12_has 6 = .ok (.if_icmp .ne 7, 3) := by decide +kernel
theorem dX12_has_9 : decode cX12_has 9 = .ok (.iconst 1, 1) := by decide +kernel
theorem dX12_has_10 : decode cX12_has 10 = .ok (.goto 4, 3) := by decide +kernel
theorem dX12_has_13 : decode cX12_has 13 = .ok (.iconst 0, 1) := by decide +kernel
theorem dX12_has_14 : decode cX12_has 14 = .ok (.ireturn, 1) := by decide +kernel
theorem dX12_greater_0 : decode cX12_greater 0 = .ok (.iload_n 0, 1) := by decide +kernel
theorem dX12_greater_1 : decode cX12_greater 1 = .ok (.iload_n 1, 1) := by decide +kernel
theorem dX12_greater_2 : decode cX12_greater 2 = .ok (.if_icmp .le 7, 3) := by decide +kernel
theorem dX12_greater_5 : decode cX12_greater 5 = .ok (.iload_n 0, 1) := by decide +kernel
theorem dX12_greater_6 : decode cX12_greater 6 = .ok (.goto 4, 3) := by decide +kernel
theorem dX12_greater_9 : decode cX12_greater 9 = .ok (.iload_n 1, 1) := by decide +kernel
theorem dX12_greater_10 : decode cX12_greater 10 = .ok (.ireturn, 1) := by decide +kernel
theorem dX12_lesser_0 : decode cX12_lesser 0 = .ok (.iload_n 0, 1) := by decide +kernel
theorem dX12_lesser_1 : decode cX12_lesser 1 = .ok (.iload_n 1, 1) := by decide +kernel
theorem dX12_lesser_2 : decode cX12_lesser 2 = .ok (.if_icmp .ge 7, 3) := by decide +kernel
theorem dX12_lesser_5 : decode cX12_lesser 5 = .ok (.iload_n 0, 1) := by decide +kernel
theorem dX12_lesser_6 : decode cX12_lesser 6 = .ok (.goto 4, 3) := by decide +kernel
theorem dX12_lesser_9 : decode cX12_lesser 9 = .ok (.iload_n 1, 1) := by decide +kernel
theorem dX12_lesser_10 : decode cX12_lesser 10 = .ok (.ireturn, 1) := by decide +kernel
theorem dX12_ones_0 : decode cX12_ones 0 = .ok (.iconst 0, 1) := by decide +kernel
theorem dX12_ones_1 : decode cX12_ones 1 = .ok (.istore_n 1, 1) := by decide +kernel
theorem dX12_ones_2 : decode cX12_ones 2 = .ok (.iconst 0, 1) := by decide +kernel
theorem dX12_ones_3 : decode cX12_ones 3 = .ok (.istore_n 2, 1) := by decide +kernel
theorem dX12_ones_4 : decode cX12_ones 4 = .ok (.iload_n 2, 1) := by decide +kernel
theorem dX12_ones_5 : decode cX12_ones 5 = .ok (.bipush 10, 2) := by decide +kernel
theorem dX12_ones_7 : decode cX12_ones 7 = .ok (.if_icmp .ge 25, 3) := by decide +kernel
theorem dX12_ones_10 : decode cX12_ones 10 = .ok (.iload_n 1, 1) := by decide +kernel
theorem dX12_ones_11 : decode cX12_ones 11 = .ok (.iload_n 0, 1) := by decide +kernel
theorem dX12_ones_12 : decode cX12_ones 12 = .ok (.iload_n 2, 1) := by decide +kernel
theorem dX12_ones_13 : decode cX12_ones 13 = .ok (.invokestatic 92, 3) := by decide +kernel
theorem dX12_ones_16 : decode cX12_ones 16 = .ok (.ifCond .eq 7, 3) := by decide +kernel
theorem dX12_ones_19 : decode cX12_ones 19 = .ok (.iconst 1, 1) := by decide +kernel
theorem dX12_ones_20 : decode cX12_ones 20 = .ok (.goto 4, 3) := by decide +kernel
theorem dX12_ones_23 : decode cX12_ones 23 = .ok (.iconst 0, 1) := by decide +kernel
theorem dX12_ones_24 : decode cX12_ones 24 = .ok (.iadd, 1) := by decide +kernel
theorem dX12_ones_25 : decode cX12_ones 25 = .ok (.istore_n 1, 1) := by decide +kernel
theorem dX12_ones_26 : decode cX12_ones 26 = .ok (.iinc 2 1, 3) := by decide +kernel
theorem dX12_ones_29 : decode cX12_ones 29 = .ok (.goto (-25), 3) := by decide +kernel
theorem dX12_ones_32 : decode cX12_ones 32 = .ok (.iload_n 1, 1) := by decide +kernel
theorem dX12_ones_33 : decode cX12_ones 33 = .ok (.ireturn, 1) := by decide +kernel
theorem dX12_copyRow_0 : decode cX12_copyRow 0 = .ok (.iconst 0, 1) := by decide +kernel
theorem dX12_copyRow_1 : decode cX12_copyRow 1 = .ok (.istore 4, 2) := by decide +kernel
theorem dX12_copyRow_3 : decode cX12_copyRow 3 = .ok (.iload 4, 2) := by decide +kernel
theorem dX12_copyRow_5 : decode cX12_copyRow 5 = .ok (.iload_n 1, 1) := by decide +kernel
theorem dX12_copyRow_6 : decode cX12_copyRow 6 = .ok (.if_icmp .ge 25, 3) := by decide +kernel
theorem dX12_copyRow_9 : decode cX12_copyRow 9 = .ok (.aload_n 0, 1) := by decide +kernel
theorem dX12_copyRow_10 : decode cX12_copyRow 10 = .ok (.iload_n 1, 1) := by decide +kernel
theorem dX12_copyRow_11 : decode cX12_copyRow 11 = .ok (.iload_n 3, 1) := by decide +kernel
theorem dX12_copyRow_12 : decode cX12_copyRow 12 = .ok (.imul, 1) := by decide +kernel
theorem dX12_copyRow_13 : decode cX12_copyRow 13 = .ok (.iload 4, 2) := by decide +kernel
theorem dX12_copyRow_15 : decode cX12_copyRow 15 = .ok (.iadd, 1) := by decide +kernel
theorem dX12_copyRow_16 : decode cX12_copyRow 16 = .ok (.aload_n 0, 1) := by decide +kernel
theorem dX12_copyRow_17 : decode cX12_copyRow 17 = .ok (.iload_n 1, 1) := by decide +kernel
theorem dX12_copyRow_18 : decode cX12_copyRow 18 = .ok (.iload_n 2, 1) := by decide +kernel
theorem dX12_copyRow_19 : decode cX12_copyRow 19 = .ok (.imul, 1) := by decide +kernel
theorem dX12_copyRow_20 : decode cX12_copyRow 20 = .ok (.iload 4, 2) := by decide +kernel
theorem dX12_copyRow_22 : decode cX12_copyRow 22 = .ok (.iadd, 1) := by decide +kernel
theorem dX12_copyRow_23 : decode cX12_copyRow 23 = .ok (.iaload, 1) := by decide +kernel
theorem dX12_copyRow_24 : decode cX12_copyRow 24 = .ok (.iastore, 1) := by decide +kernel
theorem dX12_copyRow_25 : decode cX12_copyRow 25 = .ok (.iinc 4 1, 3) := by decide +kernel
theorem dX12_copyRow_28 : decode cX12_copyRow 28 = .ok (.goto (-25), 3) := by decide +kernel
theorem dX12_copyRow_31 : decode cX12_copyRow 31 = .ok (.return_, 1) := by decide +kernel
theorem dX12_copyAll_0 : decode cX12_copyAll 0 = .ok (.iconst 0, 1) := by decide +kernel
theorem dX12_copyAll_1 : decode cX12_copyAll 1 = .ok (.istore_n 3, 1) := by decide +kernel
theorem dX12_copyAll_2 : decode cX12_copyAll 2 = .ok (.iload_n 3, 1) := by decide +kernel
theorem dX12_copyAll_3 : decode cX12_copyAll 3 = .ok (.sipush 600, 3) := by decide +kernel
theorem dX12_copyAll_6 : decode cX12_copyAll 6 = .ok (.if_icmp .ge 33, 3) := by decide +kernel
theorem dX12_copyAll_9 : decode cX12_copyAll 9 = .ok (.aload_n 0, 1) := by decide +kernel
theorem dX12_copyAll_10 : decode cX12_copyAll 10 = .ok (.getfield 7, 3) := by decide +kernel
theorem dX12_copyAll_13 : decode cX12_copyAll 13 = .ok (.sipush 600, 3) := by decide +kernel
theorem dX12_copyAll_16 : decode cX12_copyAll 16 = .ok (.iload_n 2, 1) := by decide +kernel
theorem dX12_copyAll_17 : decode cX12_copyAll 17 = .ok (.imul, 1) := by decide +kernel
theorem dX12_copyAll_18 : decode cX12_copyAll 18 = .ok (.iload_n 3, 1) := by decide +kernel
theorem dX12_copyAll_19 : decode cX12_copyAll 19 = .ok (.iadd, 1) := by decide +kernel
theorem dX12_copyAll_20 : decode cX12_copyAll 20 = .ok (.aload_n 0, 1) := by decide +kernel
theorem dX12_copyAll_21 : decode cX12_copyAll 21 = .ok (.getfield 7, 3) := by decide +kernel
theorem dX12_copyAll_24 : decode cX12_copyAll 24 = .ok (.sipush 600, 3) := by decide +kernel
theorem dX12_copyAll_27 : decode cX12_copyAll 27 = .ok (.iload_n 1, 1) := by decide +kernel
theorem dX12_copyAll_28 : decode cX12_copyAll 28 = .ok (.imul, 1) := by decide +kernel
theorem dX12_copyAll_29 : decode cX12_copyAll 29 = .ok (.iload_n 3, 1) := by decide +kernel
theorem dX12_copyAll_30 : decode cX12_copyAll 30 = .ok (.iadd, 1) := by decide +kernel
theorem dX12_copyAll_31 : decode cX12_copyAll 31 = .ok (.baload, 1) := by decide +kernel
theorem dX12_copyAll_32 : decode cX12_copyAll 32 = .ok (.bastore, 1) := by decide +kernel
theorem dX12_copyAll_33 : decode cX12_copyAll 33 = .ok (.iinc 3 1, 3) := by decide +kernel
theorem dX12_copyAll_36 : decode cX12_copyAll 36 = .ok (.goto (-34), 3) := by decide +kernel
theorem dX12_copyAll_39 : decode cX12_copyAll 39 = .ok (.aload_n 0, 1) := by decide +kernel
theorem dX12_copyAll_40 : decode cX12_copyAll 40 = .ok (.getfield 13, 3) := by decide +kernel
theorem dX12_copyAll_43 : decode cX12_copyAll 43 = .ok (.iconst 1, 1) := by decide +kernel
theorem dX12_copyAll_44 : decode cX12_copyAll 44 = .ok (.iload_n 1, 1) := by decide +kernel
theorem dX12_copyAll_45 : decode cX12_copyAll 45 = .ok (.iload_n 2, 1) := by decide +kernel
theorem dX12_copyAll_46 : decode cX12_copyAll 46 = .ok (.invokestatic 96, 3) := by decide +kernel
theorem dX12_copyAll_49 : decode cX12_copyAll 49 = .ok (.aload_n 0, 1) := by decide +kernel
theorem dX12_copyAll_50 : decode cX12_copyAll 50 = .ok (.getfield 17, 3) := by decide +kernel
theorem dX12_copyAll_53 : decode cX12_copyAll 53 = .ok (.iconst 1, 1) := by decide +kernel
theorem dX12_copyAll_54 : decode cX12_copyAll 54 = .ok (.iload_n 1, 1) := by decide +kernel
theorem dX12_copyAll_55 : decode cX12_copyAll 55 = .ok (.iload_n 2, 1) := by decide +kernel
theorem dX12_copyAll_56 : decode cX12_copyAll 56 = .ok (.invokestatic 96, 3) := by decide +kernel
theorem dX12_copyAll_59 : decode cX12_copyAll 59 = .ok (.aload_n 0, 1) := by decide +kernel
theorem dX12_copyAll_60 : decode cX12_copyAll 60 = .ok (.getfield 20, 3) := by decide +kernel
theorem dX12_copyAll_63 : decode cX12_copyAll 63 = .ok (.iconst 1, 1) := by decide +kernel
theorem dX12_copyAll_64 : decode cX12_copyAll 64 = .ok (.iload_n 1, 1) := by decide +kernel
theorem dX12_copyAll_65 : decode cX12_copyAll 65 = .ok (.iload_n 2, 1) := by decide +kernel
theorem dX12_copyAll_66 : decode cX12_copyAll 66 = .ok (.invokestatic 96, 3) := by decide +kernel
theorem dX12_copyAll_69 : decode cX12_copyAll 69 = .ok (.aload_n 0, 1) := by decide +kernel
theorem dX12_copyAll_70 : decode cX12_copyAll 70 = .ok (.getfield 23, 3) := by decide +kernel
theorem dX12_copyAll_73 : decode cX12_copyAll 73 = .ok (.iconst 3, 1) := by decide +kernel
theorem dX12_copyAll_74 : decode cX12_copyAll 74 = .ok (.iload_n 1, 1) := by decide +kernel
theorem dX12_copyAll_75 : decode cX12_copyAll 75 = .ok (.iload_n 2, 1) := by decide +kernel
theorem dX12_copyAll_76 : decode cX12_copyAll 76 = .ok (.invokestatic 96, 3) := by decide +kernel
theorem dX12_copyAll_79 : decode cX12_copyAll 79 = .ok (.aload_n 0, 1) := by decide +kernel
theorem dX12_copyAll_80 : decode cX12_copyAll 80 = .ok (.getfield 26, 3) := by decide +kernel
theorem dX12_copyAll_83 : decode cX12_copyAll 83 = .ok (.bipush 36, 2) := by decide +kernel
theorem dX12_copyAll_85 : decode cX12_copyAll 85 = .ok (.iload_n 1, 1) := by decide +kernel
theorem dX12_copyAll_86 : decode cX12_copyAll 86 = .ok (.iload_n 2, 1) := by decide +kernel
theorem dX12_copyAll_87 : decode cX12_copyAll 87 = .ok (.invokestatic 96, 3) := by decide +kernel
theorem dX12_copyAll_90 : decode cX12_copyAll 90 = .ok (.aload_n 0, 1) := by decide +kernel
theorem dX12_copyAll_91 : decode cX12_copyAll 91 = .ok (.getfield 29, 3) := by decide +kernel
theorem dX12_copyAll_94 : decode cX12_copyAll 94 = .ok (.sipush 162, 3) := by decide +kernel
theorem dX12_copyAll_97 : decode cX12_copyAll 97 = .ok (.iload_n 1, 1) := by decide +kernel
theorem dX12_copyAll_98 : decode cX12_copyAll 98 = .ok (.iload_n 2, 1) := by decide +kernel
theorem dX12_copyAll_99 : decode cX12_copyAll 99 = .ok (.invokestatic 96, 3) := by decide +kernel
theorem dX12_copyAll_102 : decode cX12_copyAll 102 = .ok (.aload_n 0, 1) := by decide +kernel
theorem dX12_copyAll_103 : decode cX12_copyAll 103 = .ok (.getfield 32, 3) := by decide +kernel
theorem dX12_copyAll_106 : decode cX12_copyAll 106 = .ok (.bipush 52, 2) := by decide +kernel
theorem dX12_copyAll_108 : decode cX12_copyAll 108 = .ok (.iload_n 1, 1) := by decide +kernel
theorem dX12_copyAll_109 : decode cX12_copyAll 109 = .ok (.iload_n 2, 1) := by decide +kernel
theorem dX12_copyAll_110 : decode cX12_copyAll 110 = .ok (.invokestatic 96, 3) := by decide +kernel
theorem dX12_copyAll_113 : decode cX12_copyAll 113 = .ok (.return_, 1) := by decide +kernel
theorem dX12_is_0 : decode cX12_is 0 = .ok (.iload_n 2, 1) := by decide +kernel
theorem dX12_is_1 : decode cX12_is 1 = .ok (.iconst 0, 1) := by decide +kernel
theorem dX12_is_2 : decode cX12_is 2 = .ok (.aload_n 0, 1) := by decide +kernel
theorem dX12_is_3 : decode cX12_is 3 = .ok (.getfield 23, 3) := by decide +kernel
theorem dX12_is_6 : decode cX12_is 6 = .ok (.iload_n 1, 1) := by decide +kernel
theorem dX12_is_7 : decode cX12_is 7 = .ok (.iaload, 1) := by decide +kernel
theorem dX12_is_8 : decode cX12_is 8 = .ok (.iconst 1, 1) := by decide +kernel
theorem dX12_is_9 : decode cX12_is 9 = .ok (.isub, 1) := by decide +kernel
theorem dX12_is_10 : decode cX12_is 10 = .ok (.invokestatic 100, 3) := by decide +kernel
theorem dX12_is_13 : decode cX12_is 13 = .ok (.ireturn, 1) := by decide +kernel
theorem dX12_feed_0 : decode cX12_feed 0 = .ok (.aload_n 0, 1) := by decide +kernel
theorem dX12_feed_1 : decode cX12_feed 1 = .ok (.iconst 0, 1) := by decide +kernel
theorem dX12_feed_2 : decode cX12_feed 2 = .ok (.putfield 88, 3) := by decide +kernel
theorem dX12_feed_5 : decode cX12_feed 5 = .ok (.aload_n 0, 1) := by decide +kernel
theorem dX12_feed_6 : decode cX12_feed 6 = .ok (.getfield 13, 3) := by decide +kernel
theorem dX12_feed_9 : decode cX12_feed 9 = .ok (.iconst 0, 1) := by decide +kernel
theorem dX12_feed_10 : decode cX12_feed 10 = .ok (.iaload, 1) := by decide +kernel
theorem dX12_feed_11 : decode cX12_feed 11 = .ok (.bipush 20, 2) := by decide +kernel
theorem dX12_feed_13 : decode cX12_feed 13 = .ok (.iadd, 1) := by decide +kernel
theorem dX12_feed_14 : decode cX12_feed 14 = .ok (.sipush 600, 3) := by decide +kernel
theorem dX12_feed_17 : decode cX12_feed 17 = .ok (.if_icmp .le 5, 3) := by decide +kernel
theorem dX12_feed_20 : decode cX12_feed 20 = .ok (.iconst (-1), 1) := by decide +kernel
theorem dX12_feed_21 : decode cX12_feed 21 = .ok (.ireturn, 1) := by decide +kernel
theorem dX12_feed_22 : decode cX12_feed 22 = .ok (.aload_n 0, 1) := by decide +kernel
theorem dX12_feed_23 : decode cX12_feed 23 = .ok (.iload_n 1, 1) := by decide +kernel
theorem dX12_feed_24 : decode cX12_feed 24 = .ok (.invokevirtual 104, 3) := by decide +kernel
theorem dX12_feed_27 : decode cX12_feed 27 = .ok (.aload_n 0, 1) := by decide +kernel
theorem dX12_feed_28 : decode cX12_feed 28 = .ok (.iload_n 2, 1) := by decide +kernel
theorem dX12_feed_29 : decode cX12_feed 29 = .ok (.invokevirtual 104, 3) := by decide +kernel
theorem dX12_feed_32 : decode cX12_feed 32 = .ok (.aload_n 0, 1) := by decide +kernel
theorem dX12_feed_33 : decode cX12_feed 33 = .ok (.iload_n 3, 1) := by decide +kernel
theorem dX12_feed_34 : decode cX12_feed 34 = .ok (.invokevirtual 104, 3) := by decide +kernel
theorem dX12_feed_37 : decode cX12_feed 37 = .ok (.aload_n 0, 1) := by decide +kernel
theorem dX12_feed_38 : decode cX12_feed 38 = .ok (.iload 4, 2) := by decide +kernel
theorem dX12_feed_40 : decode cX12_feed 40 = .ok (.invokevirtual 104, 3) := by decide +kernel
theorem dX12_feed_43 : decode cX12_feed 43 = .ok (.aload_n 0, 1) := by decide +kernel
theorem dX12_feed_44 : decode cX12_feed 44 = .ok (.iload 5, 2) := by decide +kernel
theorem dX12_feed_46 : decode cX12_feed 46 = .ok (.invokevirtual 104, 3) := by decide +kernel
theorem dX12_feed_49 : decode cX12_feed 49 = .ok (.aload_n 0, 1) := by decide +kernel
theorem dX12_feed_50 : decode cX12_feed 50 = .ok (.getfield 13, 3) := by decide +kernel
theorem dX12_feed_53 : decode cX12_feed 53 = .ok (.iconst 0, 1) := by decide +kernel
theorem dX12_feed_54 : decode cX12_feed 54 = .ok (.iaload, 1) := by decide +kernel
theorem dX12_feed_55 : decode cX12_feed 55 = .ok (.ireturn, 1) := by decide +kernel
theorem dX12_four_0 : decode cX12_four 0 = .ok (.bipush 24, 2) := by decide +kernel
theorem dX12_four_2 : decode cX12_four 2 = .ok (.istore_n 2, 1) := by decide +kernel
theorem dX12_four_3 : decode cX12_four 3 = .ok (.iload_n 2, 1) := by decide +kernel
theorem dX12_four_4 : decode cX12_four 4 = .ok (.ifCond .lt 34, 3) := by decide +kernel
theorem dX12_four_7 : decode cX12_four 7 = .ok (.aload_n 0, 1) := by decide +kernel
theorem dX12_four_8 : decode cX12_four 8 = .ok (.getfield 7, 3) := by decide +kernel
theorem dX12_four_11 : decode cX12_four 11 = .ok (.aload_n 0, 1) := by decide +kernel
theorem dX12_four_12 : decode cX12_four 12 = .ok (.getfield 13, 3) := by decide +kernel
theorem dX12_four_15 : decode cX12_four 15 = .ok (.iconst 0, 1) := by decide +kernel
theorem dX12_four_16 : decode cX12_four 16 = .ok (.iaload, 1) := by decide +kernel
theorem dX12_four_17 : decode cX12_four 17 = .ok (.iload_n 1, 1) := by decide +kernel
theorem dX12_four_18 : decode cX12_four 18 = .ok (.iload_n 2, 1) := by decide +kernel
theorem dX12_four_19 : decode cX12_four 19 = .ok (.ishr, 1) := by decide +kernel
theorem dX12_four_20 : decode cX12_four 20 = .ok (.i2b, 1) := by decide +kernel
theorem dX12_four_21 : decode cX12_four 21 = .ok (.bastore, 1) := by decide +kernel
theorem dX12_four_22 : decode cX12_four 22 = .ok (.aload_n 0, 1) := by decide +kernel
theorem dX12_four_23 : decode cX12_four 23 = .ok (.getfield 13, 3) := by decide +kernel
theorem dX12_four_26 : decode cX12_four 26 = .ok (.iconst 0, 1) := by decide +kernel
theorem dX12_four_27 : decode cX12_four 27 = .ok (.dup2, 1) := by decide +kernel
theorem dX12_four_28 : decode cX12_four 28 = .ok (.iaload, 1) := by decide +kernel
theorem dX12_four_29 : decode cX12_four 29 = .ok (.iconst 1, 1) := by decide +kernel
theorem dX12_four_30 : decode cX12_four 30 = .ok (.iadd, 1) := by decide +kernel
theorem dX12_four_31 : decode cX12_four 31 = .ok (.iastore, 1) := by decide +kernel
theorem dX12_four_32 : decode cX12_four 32 = .ok (.iinc 2 (-8), 3) := by decide +kernel
theorem dX12_four_35 : decode cX12_four 35 = .ok (.goto (-32), 3) := by decide +kernel
theorem dX12_four_38 : decode cX12_four 38 = .ok (.return_, 1) := by decide +kernel
theorem dX12_end_0 : decode cX12_end 0 = .ok (.aload_n 0, 1) := by decide +kernel
theorem dX12_end_1 : decode cX12_end 1 = .ok (.iconst 0, 1) := by decide +kernel
theorem dX12_end_2 : decode cX12_end 2 = .ok (.putfield 88, 3) := by decide +kernel
theorem dX12_end_5 : decode cX12_end 5 = .ok (.iload_n 1, 1) := by decide +kernel
theorem dX12_end_6 : decode cX12_end 6 = .ok (.iconst 0, 1) := by decide +kernel
theorem dX12_end_7 : decode cX12_end 7 = .ok (.aload_n 0, 1) := by decide +kernel
theorem dX12_end_8 : decode cX12_end 8 = .ok (.getfield 13, 3) := by decide +kernel
theorem dX12_end_11 : decode cX12_end 11 = .ok (.iconst 0, 1) := by decide +kernel
theorem dX12_end_12 : decode cX12_end 12 = .ok (.iaload, 1) := by decide +kernel
theorem dX12_end_13 : decode cX12_end 13 = .ok (.invokestatic 100, 3) := by decide +kernel
theorem dX12_end_16 : decode cX12_end 16 = .ok (.ifCond .ne 5, 3) := by decide +kernel
theorem dX12_end_19 : decode cX12_end 19 = .ok (.iconst (-1), 1) := by decide +kernel
theorem dX12_end_20 : decode cX12_end 20 = .ok (.ireturn, 1) := by decide +kernel
theorem dX12_end_21 : decode cX12_end 21 = .ok (.aload_n 0, 1) := by decide +kernel
theorem dX12_end_22 : decode cX12_end 22 = .ok (.getfield 13, 3) := by decide +kernel
theorem dX12_end_25 : decode cX12_end 25 = .ok (.iconst 0, 1) := by decide +kernel
theorem dX12_end_26 : decode cX12_end 26 = .ok (.iload_n 1, 1) := by decide +kernel
theorem dX12_end_27 : decode cX12_end 27 = .ok (.iastore, 1) := by decide +kernel
theorem dX12_end_28 : decode cX12_end 28 = .ok (.iload_n 1, 1) := by decide +kernel
theorem dX12_end_29 : decode cX12_end 29 = .ok (.ireturn, 1) := by decide +kernel
theorem dX12_see_0 : decode cX12_see 0 = .ok (.aload_n 0, 1) := by decide +kernel
theorem dX12_see_1 : decode cX12_see 1 = .ok (.getfield 108, 3) := by decide +kernel
theorem dX12_see_4 : decode cX12_see 4 = .ok (.aload_n 0, 1) := by decide +kernel
theorem dX12_see_5 : decode cX12_see 5 = .ok (.getfield 111, 3) := by decide +kernel
theorem dX12_see_8 : decode cX12_see 8 = .ok (.if_icmp .ge 19, 3) := by decide +kernel
theorem dX12_see_11 : decode cX12_see 11 = .ok (.aload_n 0, 1) := by decide +kernel
theorem dX12_see_12 : decode cX12_see 12 = .ok (.getfield 7, 3) := by decide +kernel
theorem dX12_see_15 : decode cX12_see 15 = .ok (.aload_n 0, 1) := by decide +kernel
theorem dX12_see_16 : decode cX12_see 16 = .ok (.getfield 108, 3) := by decide +kernel
theorem dX12_see_19 : decode cX12_see 19 = .ok (.baload, 1) := by decide +kernel
theorem dX12_see_20 : decode cX12_see 20 = .ok (.sipush 255, 3) := by decide +kernel
theorem dX12_see_23 : decode cX12_see 23 = .ok (.iand, 1) := by decide +kernel
theorem dX12_see_24 : decode cX12_see 24 = .ok (.goto 4, 3) := by decide +kernel
theorem dX12_see_27 : decode cX12_see 27 = .ok (.iconst (-1), 1) := by decide +kernel
theorem dX12_see_28 : decode cX12_see 28 = .ok (.ireturn, 1) := by decide +kernel
theorem dX12_token_0 : decode cX12_token 0 = .ok (.aload_n 0, 1) := by decide +kernel
theorem dX12_token_1 : decode cX12_token 1 = .ok (.invokevirtual 114, 3) := by decide +kernel
theorem dX12_token_4 : decode cX12_token 4 = .ok (.bipush 10, 2) := by decide +kernel
theorem dX12_token_6 : decode cX12_token 6 = .ok (.if_icmp .eq 12, 3) := by decide +kernel
theorem dX12_token_9 : decode cX12_token 9 = .ok (.aload_n 0, 1) := by decide +kernel
theorem dX12_token_10 : decode cX12_token 10 = .ok (.invokevirtual 114, 3) := by decide +kernel
theorem dX12_token_13 : decode cX12_token 13 = .ok (.bipush 32, 2) := by decide +kernel
theorem dX12_token_15 : decode cX12_token 15 = .ok (.if_icmp .ne 16, 3) := by decide +kernel
theorem dX12_token_18 : decode cX12_token 18 = .ok (.aload_n 0, 1) := by decide +kernel
theorem dX12_token_19 : decode cX12_token 19 = .ok (.dup, 1) := by decide +kernel
theorem dX12_token_20 : decode cX12_token 20 = .ok (.getfield 108, 3) := by decide +kernel
theorem dX12_token_23 : decode cX12_token 23 = .ok (.iconst 1, 1) := by decide +kernel
theorem dX12_token_24 : decode cX12_token 24 = .ok (.iadd, 1) := by decide +kernel
theorem dX12_token_25 : decode cX12_token 25 = .ok (.putfield 108, 3) := by decide +kernel
theorem dX12_token_28 : decode cX12_token 28 = .ok (.goto (-28), 3) := by decide +kernel
theorem dX12_token_31 : decode cX12_token 31 = .ok (.aload_n 0, 1) := by decide +kernel
theorem dX12_token_32 : decode cX12_token 32 = .ok (.aload_n 0, 1) := by decide +kernel
theorem dX12_token_33 : decode cX12_token 33 = .ok (.getfield 108, 3) := by decide +kernel
theorem dX12_token_36 : decode cX12_token 36 = .ok (.putfield 118, 3) := by decide +kernel
theorem dX12_token_39 : decode cX12_token 39 = .ok (.aload_n 0, 1) := by decide +kernel
theorem dX12_token_40 : decode cX12_token 40 = .ok (.invokevirtual 114, 3) := by decide +kernel
theorem dX12_token_43 : decode cX12_token 43 = .ok (.istore_n 1, 1) := by decide +kernel
theorem dX12_token_44 : decode cX12_token 44 = .ok (.aload_n 0, 1) := by decide +kernel
theorem dX12_token_45 : decode cX12_token 45 = .ok (.lconst 0, 1) := by decide +kernel
theorem dX12_token_46 : decode cX12_token 46 = .ok (.putfield 121, 3) := by decide +kernel
theorem dX12_token_49 : decode cX12_token 49 = .ok (.iconst 0, 1) := by decide +kernel
theorem dX12_token_50 : decode cX12_token 50 = .ok (.istore_n 2, 1) := by decide +kernel
theorem dX12_token_51 : decode cX12_token 51 = .ok (.iload_n 1, 1) := by decide +kernel
theorem dX12_token_52 : decode cX12_token 52 = .ok (.ifCond .ge 11, 3) := by decide +kernel
theorem dX12_token_55 : decode cX12_token 55 = .ok (.aload_n 0, 1) := by decide +kernel
theorem dX12_token_56 : decode cX12_token 56 = .ok (.iconst 0, 1) := by decide +kernel
theorem dX12_token_57 : decode cX12_token 57 = .ok (.putfield 125, 3) := by decide +kernel
theorem dX12_token_60 : decode cX12_token 60 = .ok (.goto 206, 3) := by decide +kernel
theorem dX12_token_63 : decode cX12_token 63 = .ok (.iload_n 1, 1) := by decide +kernel
theorem dX12_token_64 : decode cX12_token 64 = .ok (.bipush 97, 2) := by decide +kernel
theorem dX12_token_66 : decode cX12_token 66 = .ok (.bipush 122, 2) := by decide +kernel
theorem dX12_token_68 : decode cX12_token 68 = .ok (.invokestatic 100, 3) := by decide +kernel
theorem dX12_token_71 : decode cX12_token 71 = .ok (.ifCond .eq 76, 3) := by decide +kernel
theorem dX12_token_74 : decode cX12_token 74 = .ok (.aload_n 0, 1) := by decide +kernel
theorem dX12_token_75 : decode cX12_token 75 = .ok (.invokevirtual 114, 3) := by decide +kernel
theorem dX12_token_78 : decode cX12_token 78 = .ok (.bipush 97, 2) := by decide +kernel
theorem dX12_token_80 : decode cX12_token 80 = .ok (.bipush 122, 2) := by decide +kernel
theorem dX12_token_82 : decode cX12_token 82 = .ok (.invokestatic 100, 3) := by decide +kernel
theorem dX12_token_85 : decode cX12_token 85 = .ok (.ifCond .eq 36, 3) := by decide +kernel
theorem dX12_token_88 : decode cX12_token 88 = .ok (.aload_n 0, 1) := by decide +kernel
theorem dX12_token_89 : decode cX12_token 89 = .ok (.aload_n 0, 1) := by decide +kernel
theorem dX12_token_90 : decode cX12_token 90 = .ok (.getfield 121, 3) := by decide +kernel
theorem dX12_token_93 : decode cX12_token 93 = .ok (.bipush 8, 2) := by decide +kernel
theorem dX12_token_95 : decode cX12_token 95 = .ok (.lshl, 1) := by decide +kernel
theorem dX12_token_96 : decode cX12_token 96 = .ok (.aload_n 0, 1) := by decide +kernel
theorem dX12_token_97 : decode cX12_token 97 = .ok (.invokevirtual 114, 3) := by decide +kernel
theorem dX12_token_100 : decode cX12_token 100 = .ok (.i2l, 1) := by decide +kernel
theorem dX12_token_101 : decode cX12_token 101 = .ok (.lor, 1) := by decide +kernel
theorem dX12_token_102 : decode cX12_token 102 = .ok (.putfield 121, 3) := by decide +kernel
theorem dX12_token_105 : decode cX12_token 105 = .ok (.aload_n 0, 1) := by decide +kernel
theorem dX12_token_106 : decode cX12_token 106 = .ok (.dup, 1) := by decide +kernel
theorem dX12_token_107 : decode cX12_token 107 = .ok (.getfield 108, 3) := by decide +kernel
theorem dX12_token_110 : decode cX12_token 110 = .ok (.iconst 1, 1) := by decide +kernel
theorem dX12_token_111 : decode cX12_token 111 = .ok (.iadd, 1) := by decide +kernel
theorem dX12_token_112 : decode cX12_token 112 = .ok (.putfield 108, 3) := by decide +kernel
theorem dX12_token_115 : decode cX12_token 115 = .ok (.iinc 2 1, 3) := by decide +kernel
theorem dX12_token_118 : decode cX12_token 118 = .ok (.goto (-44), 3) := by decide +kernel
theorem dX12_token_121 : decode cX12_token 121 = .ok (.aload_n 0, 1) := by decide +kernel
theorem dX12_token_122 : decode cX12_token 122 = .ok (.iload_n 2, 1) := by decide +kernel
theorem dX12_token_123 : decode cX12_token 123 = .ok (.bipush 8, 2) := by decide +kernel
theorem dX12_token_125 : decode cX12_token 125 = .ok (.if_icmp .le 7, 3) := by decide +kernel
theorem dX12_token_128 : decode cX12_token 128 = .ok (.lconst 0, 1) := by decide +kernel
theorem dX12_token_129 : decode cX12_token 129 = .ok (.goto 7, 3) := by decide +kernel
theorem dX12_token_132 : decode cX12_token 132 = .ok (.aload_n 0, 1) := by decide +kernel
theorem dX12_token_133 : decode cX12_token 133 = .ok (.getfield 121, 3) := by decide +kernel
theorem dX12_token_136 : decode cX12_token 136 = .ok (.putfield 121, 3) := by decide +kernel
theorem dX12_token_139 : decode cX12_token 139 = .ok (.aload_n 0, 1) := by decide +kernel
theorem dX12_token_140 : decode cX12_token 140 = .ok (.iconst 2, 1) := by decide +kernel
theorem dX12_token_141 : decode cX12_token 141 = .ok (.putfield 125, 3) := by decide +kernel
theorem dX12_token_144 : decode cX12_token 144 = .ok (.goto 122, 3) := by decide +kernel
theorem dX12_token_147 : decode cX12_token 147 = .ok (.iload_n 1, 1) := by decide +kernel
theorem dX12_token_148 : decode cX12_token 148 = .ok (.bipush 48, 2) := by decide +kernel
theorem dX12_token_150 : decode cX12_token 150 = .ok (.bipush 57, 2) := by decide +kernel
theorem dX12_token_152 : decode cX12_token 152 = .ok (.invokestatic 100, 3) := by decide +kernel
theorem dX12_token_155 : decode cX12_token 155 = .ok (.ifCond .eq 86, 3) := by decide +kernel
theorem dX12_token_158 : decode cX12_token 158 = .ok (.aload_n 0, 1) := by decide +kernel
theorem dX12_token_159 : decode cX12_token 159 = .ok (.iconst 0, 1) := by decide +kernel
theorem dX12_token_160 : decode cX12_token 160 = .ok (.putfield 128, 3) := by decide +kernel
theorem dX12_token_163 : decode cX12_token 163 = .ok (.aload_n 0, 1) := by decide +kernel
theorem dX12_token_164 : decode cX12_token 164 = .ok (.invokevirtual 114, 3) := by decide +kernel
theorem dX12_token_167 : decode cX12_token 167 = .ok (.bipush 48, 2) := by decide +kernel
theorem dX12_token_169 : decode cX12_token 169 = .ok (.bipush 57, 2) := by decide +kernel
theorem dX12_token_171 : decode cX12_token 171 = .ok (.invokestatic 100, 3) := by decide +kernel
theorem dX12_token_174 : decode cX12_token 174 = .ok (.ifCond .eq 50, 3) := by decide +kernel
theorem dX12_token_177 : decode cX12_token 177 = .ok (.aload_n 0, 1) := by decide +kernel
theorem dX12_token_178 : decode cX12_token 178 = .ok (.iload_n 2, 1) := by decide +kernel
theorem dX12_token_179 : decode cX12_token 179 = .ok (.iconst 2, 1) := by decide +kernel
theorem dX12_token_180 : decode cX12_token 180 = .ok (.if_icmp .ge 21, 3) := by decide +kernel
theorem dX12_token_183 : decode cX12_token 183 = .ok (.bipush 10, 2) := by decide +kernel
theorem dX12_token_185 : decode cX12_token 185 = .ok (.aload_n 0, 1) := by decide +kernel
theorem dX12_token_186 : decode cX12_token 186 = .ok (.getfield 128, 3) := by decide +kernel
theorem dX12_token_189 : decode cX12_token 189 = .ok (.imul, 1) := by decide +kernel
theorem dX12_token_190 : decode cX12_token 190 = .ok (.aload_n 0, 1) := by decide +kernel
theorem dX12_token_191 : decode cX12_token 191 = .ok (.invokevirtual 114, 3) := by decide +kernel
theorem dX12_token_194 : decode cX12_token 194 = .ok (.iadd, 1) := by decide +kernel
theorem dX12_token_195 : decode cX12_token 195 = .ok (.bipush 48, 2) := by decide +kernel
theorem dX12_token_197 : decode cX12_token 197 = .ok (.isub, 1) := by decide +kernel
theorem dX12_token_198 : decode cX12_token 198 = .ok (.goto 7, 3) := by decide +kernel
theorem dX12_token_201 : decode cX12_token 201 = .ok (.aload_n 0, 1) := by decide +kernel
theorem dX12_token_202 : decode cX12_token 202 = .ok (.getfield 128, 3) := by decide +kernel
theorem dX12_token_205 : decode cX12_token 205 = .ok (.putfield 128, 3) := by decide +kernel
theorem dX12_token_208 : decode cX12_token 208 = .ok (.aload_n 0, 1) := by decide +kernel
theorem dX12_token_209 : decode cX12_token 209 = .ok (.dup, 1) := by decide +kernel
theorem dX12_token_210 : decode cX12_token 210 = .ok (.getfield 108, 3) := by decide +kernel
theorem dX12_token_213 : decode cX12_token 213 = .ok (.iconst 1, 1) := by decide +kernel
theorem dX12_token_214 : decode cX12_token 214 = .ok (.iadd, 1) := by decide +kernel
theorem dX12_token_215 : decode cX12_token 215 = .ok (.putfield 108, 3) := by decide +kernel
theorem dX12_token_218 : decode cX12_token 218 = .ok (.iinc 2 1, 3) := by decide +kernel
theorem dX12_token_221 : decode cX12_token 221 = .ok (.goto (-58), 3) := by decide +kernel
theorem dX12_token_224 : decode cX12_token 224 = .ok (.aload_n 0, 1) := by decide +kernel
theorem dX12_token_225 : decode cX12_token 225 = .ok (.iload_n 2, 1) := by decide +kernel
theorem dX12_token_226 : decode cX12_token 226 = .ok (.iconst 2, 1) := by decide +kernel
theorem dX12_token_227 : decode cX12_token 227 = .ok (.if_icmp .le 7, 3) := by decide +kernel
theorem dX12_token_230 : decode cX12_token 230 = .ok (.iconst 1, 1) := by decide +kernel
theorem dX12_token_231 : decode cX12_token 231 = .ok (.goto 4, 3) := by decide +kernel
theorem dX12_token_234 : decode cX12_token 234 = .ok (.iconst 3, 1) := by decide +kernel
theorem dX12_token_235 : decode cX12_token 235 = .ok (.putfield 125, 3) := by decide +kernel
theorem dX12_token_238 : decode cX12_token 238 = .ok (.goto 28, 3) := by decide +kernel
theorem dX12_token_241 : decode cX12_token 241 = .ok (.aload_n 0, 1) := by decide +kernel
theorem dX12_token_242 : decode cX12_token 242 = .ok (.dup, 1) := by decide +kernel
theorem dX12_token_243 : decode cX12_token 243 = .ok (.getfield 108, 3) := by decide +kernel
theorem dX12_token_246 : decode cX12_token 246 = .ok (.iconst 1, 1) := by decide +kernel
theorem dX12_token_247 : decode cX12_token 247 = .ok (.iadd, 1) := by decide +kernel
theorem dX12_token_248 : decode cX12_token 248 = .ok (.putfield 108, 3) := by decide +kernel
theorem dX12_token_251 : decode cX12_token 251 = .ok (.aload_n 0, 1) := by decide +kernel
theorem dX12_token_252 : decode cX12_token 252 = .ok (.iload_n 1, 1) := by decide +kernel
theorem dX12_token_253 : decode cX12_token 253 = .ok (.bipush 59, 2) := by decide +kernel
theorem dX12_token_255 : decode cX12_token 255 = .ok (.if_icmp .ne 7, 3) := by decide +kernel
theorem dX12_token_258 : decode cX12_token 258 = .ok (.iconst 4, 1) := by decide +kernel
theorem dX12_token_259 : decode cX12_token 259 = .ok (.goto 4, 3) := by decide +kernel
theorem dX12_token_262 : decode cX12_token 262 = .ok (.iconst 1, 1) := by decide +kernel
theorem dX12_token_263 : decode cX12_token 263 = .ok (.putfield 125, 3) := by decide +kernel
theorem dX12_token_266 : decode cX12_token 266 = .ok (.return_, 1) := by decide +kernel
theorem dX12_fails_0 : decode cX12_fails 0 = .ok (.aload_n 0, 1) := by decide +kernel
theorem dX12_fails_1 : decode cX12_fails 1 = .ok (.aload_n 0, 1) := by decide +kernel
theorem dX12_fails_2 : decode cX12_fails 2 = .ok (.getfield 118, 3) := by decide +kernel
theorem dX12_fails_5 : decode cX12_fails 5 = .ok (.putfield 131, 3) := by decide +kernel
theorem dX12_fails_8 : decode cX12_fails 8 = .ok (.iconst 0, 1) := by decide +kernel
theorem dX12_fails_9 : decode cX12_fails 9 = .ok (.ireturn, 1) := by decide +kernel
theorem dX12_addsFault_0 : decode cX12_addsFault 0 = .ok (.aload_n 0, 1) := by decide +kernel
theorem dX12_addsFault_1 : decode cX12_addsFault 1 = .ok (.getfield 134, 3) := by decide +kernel
theorem dX12_addsFault_4 : decode cX12_addsFault 4 = .ok (.ifCond .eq 27, 3) := by decide +kernel
theorem dX12_addsFault_7 : decode cX12_addsFault 7 = .ok (.iload_n 2, 1) := by decide +kernel
theorem dX12_addsFault_8 : decode cX12_addsFault 8 = .ok (.aload_n 0, 1) := by decide +kernel
theorem dX12_addsFault_9 : decode cX12_addsFault 9 = .ok (.getfield 137, 3) := by decide +kernel
theorem dX12_addsFault_12 : decode cX12_addsFault 12 = .ok (.if_icmp .lt 19, 3) := by decide +kernel
theorem dX12_addsFault_15 : decode cX12_addsFault 15 = .ok (.iload_n 2, 1) := by decide +kernel
theorem dX12_addsFault_16 : decode cX12_addsFault 16 = .ok (.aload_n 0, 1) := by decide +kernel
theorem dX12_addsFault_17 : decode cX12_addsFault 17 = .ok (.getfield 137, 3) := by decide +kernel
theorem dX12_addsFault_20 : decode cX12_addsFault 20 = .ok (.if_icmp .ne 21, 3) := by decide +kernel
theorem dX12_addsFault_23 : decode cX12_addsFault 23 = .ok (.iload_n 1, 1) := by decide +kernel
theorem dX12_addsFault_24 : decode cX12_addsFault 24 = .ok (.aload_n 0, 1) := by decide +kernel
theorem dX12_addsFault_25 : decode cX12_addsFault 25 = .ok (.getfield 134, 3) := by decide +kernel
theorem dX12_addsFault_28 : decode cX12_addsFault 28 = .ok (.if_icmp .ge 13, 3) := by decide +kernel
theorem dX12_addsFault_31 : decode cX12_addsFault 31 = .ok (.aload_n 0, 1) := by decide +kernel
theorem dX12_addsFault_32 : decode cX12_addsFault 32 = .ok (.iload_n 1, 1) := by decide +kernel
theorem dX12_addsFault_33 : decode cX12_addsFault 33 = .ok (.putfield 134, 3) := by decide +kernel
theorem dX12_addsFault_36 : decode cX12_addsFault 36 = .ok (.aload_n 0, 1) := by decide +kernel
theorem dX12_addsFault_37 : decode cX12_addsFault 37 = .ok (.iload_n 2, 1) := by decide +kernel
theorem dX12_addsFault_38 : decode cX12_addsFault 38 = .ok (.putfield 137, 3) := by decide +kernel
theorem dX12_addsFault_41 : decode cX12_addsFault 41 = .ok (.return_, 1) := by decide +kernel
theorem dX12_take_0 : decode cX12_take 0 = .ok (.aload_n 0, 1) := by decide +kernel
theorem dX12_take_1 : decode cX12_take 1 = .ok (.getfield 125, 3) := by decide +kernel
theorem dX12_take_4 : decode cX12_take 4 = .ok (.iconst 3, 1) := by decide +kernel
theorem dX12_take_5 : decode cX12_take 5 = .ok (.if_icmp .eq 8, 3) := by decide +kernel
theorem dX12_take_8 : decode cX12_take 8 = .ok (.aload_n 0, 1) := by decide +kernel
theorem dX12_take_9 : decode cX12_take 9 = .ok (.invokevirtual 140, 3) := by decide +kernel
theorem dX12_take_12 : decode cX12_take 12 = .ok (.ireturn, 1) := by decide +kernel
theorem dX12_take_13 : decode cX12_take 13 = .ok (.aload_n 0, 1) := by decide +kernel
theorem dX12_take_14 : decode cX12_take 14 = .ok (.getfield 38, 3) := by decide +kernel
theorem dX12_take_17 : decode cX12_take 17 = .ok (.iload_n 1, 1) := by decide +kernel
theorem dX12_take_18 : decode cX12_take 18 = .ok (.aload_n 0, 1) := by decide +kernel
theorem dX12_take_19 : decode cX12_take 19 = .ok (.getfield 128, 3) := by decide +kernel
theorem dX12_take_22 : decode cX12_take 22 = .ok (.iastore, 1) := by decide +kernel
theorem dX12_take_23 : decode cX12_take 23 = .ok (.aload_n 0, 1) := by decide +kernel
theorem dX12_take_24 : decode cX12_take 24 = .ok (.getfield 128, 3) := by decide +kernel
theorem dX12_take_27 : decode cX12_take 27 = .ok (.iload_n 2, 1) := by decide +kernel
theorem dX12_take_28 : decode cX12_take 28 = .ok (.iload_n 3, 1) := by decide +kernel
theorem dX12_take_29 : decode cX12_take 29 = .ok (.invokestatic 100, 3) := by decide +kernel
theorem dX12_take_32 : decode cX12_take 32 = .ok (.ifCond .ne 17, 3) := by decide +kernel
theorem dX12_take_35 : decode cX12_take 35 = .ok (.aload_n 0, 1) := by decide +kernel
theorem dX12_take_36 : decode cX12_take 36 = .ok (.iconst 2, 1) := by decide +kernel
theorem dX12_take_37 : decode cX12_take 37 = .ok (.aload_n 0, 1) := by decide +kernel
theorem dX12_take_38 : decode cX12_take 38 = .ok (.getfield 118, 3) := by decide +kernel
theorem dX12_take_41 : decode cX12_take 41 = .ok (.invokevirtual 144, 3) := by decide +kernel
theorem dX12_take_44 : decode cX12_take 44 = .ok (.aload_n 0, 1) := by decide +kernel
theorem dX12_take_45 : decode cX12_take 45 = .ok (.iconst 0, 1) := by decide +kernel
theorem dX12_take_46 : decode cX12_take 46 = .ok (.putfield 148, 3) := by decide +kernel
theorem dX12_take_49 : decode cX12_take 49 = .ok (.aload_n 0, 1) := by decide +kernel
theorem dX12_take_50 : decode cX12_take 50 = .ok (.invokevirtual 152, 3) := by decide +kernel
theorem dX12_take_53 : decode cX12_take 53 = .ok (.iconst 1, 1) := by decide +kernel
theorem dX12_take_54 : decode cX12_take 54 = .ok (.ireturn, 1) := by decide +kernel
theorem dX12_full_0 : decode cX12_full 0 = .ok (.aload_n 0, 1) := by decide +kernel
theorem dX12_full_1 : decode cX12_full 1 = .ok (.getfield 35, 3) := by decide +kernel
theorem dX12_full_4 : decode cX12_full 4 = .ok (.iload_n 1, 1) := by decide +kernel
theorem dX12_full_5 : decode cX12_full 5 = .ok (.iaload, 1) := by decide +kernel
theorem dX12_full_6 : decode cX12_full 6 = .ok (.iload_n 2, 1) := by decide +kernel
theorem dX12_full_7 : decode cX12_full 7 = .ok (.if_icmp .ne 9, 3) := by decide +kernel
theorem dX12_full_10 : decode cX12_full 10 = .ok (.aload_n 0, 1) := by decide +kernel
theorem dX12_full_11 : decode cX12_full 11 = .ok (.iconst 3, 1) := by decide +kernel
theorem dX12_full_12 : decode cX12_full 12 = .ok (.iload_n 3, 1) := by decide +kernel
theorem dX12_full_13 : decode cX12_full 13 = .ok (.invokevirtual 144, 3) := by decide +kernel
theorem dX12_full_16 : decode cX12_full 16 = .ok (.return_, 1) := by decide +kernel
theorem dX12_plateLine_0 : decode cX12_plateLine 0 = .ok (.aload_n 0, 1) := by decide +kernel
theorem dX12_plateLine_1 : decode cX12_plateLine 1 = .ok (.iconst 2, 1) := by decide +kernel
theorem dX12_plateLine_2 : decode cX12_plateLine 2 = .ok (.iconst 5, 1) := by decide +kernel
theorem dX12_plateLine_3 : decode cX12_plateLine 3 = .ok (.iload_n 1, 1) := by decide +kernel
theorem dX12_plateLine_4 : decode cX12_plateLine 4 = .ok (.invokevirtual 155, 3) := by decide +kernel
theorem dX12_plateLine_7 : decode cX12_plateLine 7 = .ok (.aload_n 0, 1) := by decide +kernel
theorem dX12_plateLine_8 : decode cX12_plateLine 8 = .ok (.invokevirtual 152, 3) := by decide +kernel
theorem dX12_plateLine_11 : decode cX12_plateLine 11 = .ok (.aload_n 0, 1) := by decide +kernel
theorem dX12_plateLine_12 : decode cX12_plateLine 12 = .ok (.iconst 0, 1) := by decide +kernel
theorem dX12_plateLine_13 : decode cX12_plateLine 13 = .ok (.iconst 0, 1) := by decide +kernel
theorem dX12_plateLine_14 : decode cX12_plateLine 14 = .ok (.bipush 9, 2) := by decide +kernel
theorem dX12_plateLine_16 : decode cX12_plateLine 16 = .ok (.invokevirtual 159, 3) := by decide +kernel
theorem dX12_plateLine_19 : decode cX12_plateLine 19 = .ok (.ifCond .eq 14, 3) := by decide +kernel
theorem dX12_plateLine_22 : decode cX12_plateLine 22 = .ok (.aload_n 0, 1) := by decide +kernel
theorem dX12_plateLine_23 : decode cX12_plateLine 23 = .ok (.iconst 1, 1) := by decide +kernel
theorem dX12_plateLine_24 : decode cX12_plateLine 24 = .ok (.iconst 1, 1) := by decide +kernel
theorem dX12_plateLine_25 : decode cX12_plateLine 25 = .ok (.bipush 6, 2) := by decide +kernel
theorem dX12_plateLine_27 : decode cX12_plateLine 27 = .ok (.invokevirtual 159, 3) := by decide +kernel
theorem dX12_plateLine_30 : decode cX12_plateLine 30 = .ok (.ifCond .ne 5, 3) := by decide +kernel
theorem dX12_plateLine_33 : decode cX12_plateLine 33 = .ok (.iconst 0, 1) := by decide +kernel
theorem dX12_plateLine_34 : decode cX12_plateLine 34 = .ok (.ireturn, 1) := by decide +kernel
theorem dX12_plateLine_35 : decode cX12_plateLine 35 = .ok (.aload_n 0, 1) := by decide +kernel
theorem dX12_plateLine_36 : decode cX12_plateLine 36 = .ok (.iconst 2, 1) := by decide +kernel
theorem dX12_plateLine_37 : decode cX12_plateLine 37 = .ok (.iconst 1, 1) := by decide +kernel
theorem dX12_plateLine_38 : decode cX12_plateLine 38 = .ok (.bipush 6, 2) := by decide +kernel
theorem dX12_plateLine_40 : decode cX12_plateLine 40 = .ok (.aload_n 0, 1) := by decide +kernel
theorem dX12_plateLine_41 : decode cX12_plateLine 41 = .ok (.getfield 38, 3) := by decide +kernel
theorem dX12_plateLine_44 : decode cX12_plateLine 44 = .ok (.iconst 1, 1) := by decide +kernel
theorem dX12_plateLine_45 : decode cX12_plateLine 45 = .ok (.iaload, 1) := by decide +kernel
theorem dX12_plateLine_46 : decode cX12_plateLine 46 = .ok (.invokestatic 162, 3) := by decide +kernel
theorem dX12_plateLine_49 : decode cX12_plateLine 49 = .ok (.invokevirtual 159, 3) := by decide +kernel
theorem dX12_plateLine_52 : decode cX12_plateLine 52 = .ok (.ifCond .ne 5, 3) := by decide +kernel
theorem dX12_plateLine_55 : decode cX12_plateLine 55 = .ok (.iconst 0, 1) := by decide +kernel
theorem dX12_plateLine_56 : decode cX12_plateLine 56 = .ok (.ireturn, 1) := by decide +kernel
theorem dX12_plateLine_57 : decode cX12_plateLine 57 = .ok (.aload_n 0, 1) := by decide +kernel
theorem dX12_plateLine_58 : decode cX12_plateLine 58 = .ok (.getfield 35, 3) := by decide +kernel
theorem dX12_plateLine_61 : decode cX12_plateLine 61 = .ok (.iconst 2, 1) := by decide +kernel
theorem dX12_plateLine_62 : decode cX12_plateLine 62 = .ok (.iaload, 1) := by decide +kernel
theorem dX12_plateLine_63 : decode cX12_plateLine 63 = .ok (.istore_n 2, 1) := by decide +kernel
theorem dX12_plateLine_64 : decode cX12_plateLine 64 = .ok (.iconst 0, 1) := by decide +kernel
theorem dX12_plateLine_65 : decode cX12_plateLine 65 = .ok (.istore_n 3, 1) := by decide +kernel
theorem dX12_plateLine_66 : decode cX12_plateLine 66 = .ok (.iload_n 3, 1) := by decide +kernel
theorem dX12_plateLine_67 : decode cX12_plateLine 67 = .ok (.iconst 3, 1) := by decide +kernel
theorem dX12_plateLine_68 : decode cX12_plateLine 68 = .ok (.if_icmp .ge 32, 3) := by decide +kernel
theorem dX12_plateLine_71 : decode cX12_plateLine 71 = .ok (.iload_n 2, 1) := by decide +kernel
theorem dX12_plateLine_72 : decode cX12_plateLine 72 = .ok (.iconst 5, 1) := by decide +kernel
theorem dX12_plateLine_73 : decode cX12_plateLine 73 = .ok (.if_icmp .ge 27, 3) := by decide +kernel
theorem dX12_plateLine_76 : decode cX12_plateLine 76 = .ok (.aload_n 0, 1) := by decide +kernel
theorem dX12_plateLine_77 : decode cX12_plateLine 77 = .ok (.getfield 35, 3) := by decide +kernel
theorem dX12_plateLine_80 : decode cX12_plateLine 80 = .ok (.iconst 3, 1) := by decide +kernel
theorem dX12_plateLine_81 : decode cX12_plateLine 81 = .ok (.iconst 5, 1) := by decide +kernel
theorem dX12_plateLine_82 : decode cX12_plateLine 82 = .ok (.iload_n 3, 1) := by decide +kernel
theorem dX12_plateLine_83 : decode cX12_plateLine 83 = .ok (.imul, 1) := by decide +kernel
theorem dX12_plateLine_84 : decode cX12_plateLine 84 = .ok (.iadd, 1) := by decide +kernel
theorem dX12_plateLine_85 : decode cX12_plateLine 85 = .ok (.iload_n 2, 1) := by decide +kernel
theorem dX12_plateLine_86 : decode cX12_plateLine 86 = .ok (.iadd, 1) := by decide +kernel
theorem dX12_plateLine_87 : decode cX12_plateLine 87 = .ok (.aload_n 0, 1) := by decide +kernel
theorem dX12_plateLine_88 : decode cX12_plateLine 88 = .ok (.getfield 38, 3) := by decide +kernel
theorem dX12_plateLine_91 : decode cX12_plateLine 91 = .ok (.iload_n 3, 1) := by decide +kernel
theorem dX12_plateLine_92 : decode cX12_plateLine 92 = .ok (.iaload, 1) := by decide +kernel
theorem dX12_plateLine_93 : decode cX12_plateLine 93 = .ok (.iastore, 1) := by decide +kernel
theorem dX12_plateLine_94 : decode cX12_plateLine 94 = .ok (.iinc 3 1, 3) := by decide +kernel
theorem dX12_plateLine_97 : decode cX12_plateLine 97 = .ok (.goto (-31), 3) := by decide +kernel
theorem dX12_plateLine_100 : decode cX12_plateLine 100 = .ok (.aload_n 0, 1) := by decide +kernel
theorem dX12_plateLine_101 : decode cX12_plateLine 101 = .ok (.getfield 35, 3) := by decide +kernel
theorem dX12_plateLine_104 : decode cX12_plateLine 104 = .ok (.iconst 2, 1) := by decide +kernel
theorem dX12_plateLine_105 : decode cX12_plateLine 105 = .ok (.iconst 5, 1) := by decide +kernel
theorem dX12_plateLine_106 : decode cX12_plateLine 106 = .ok (.iload_n 2, 1) := by decide +kernel
theorem dX12_plateLine_107 : decode cX12_plateLine 107 = .ok (.iconst 1, 1) := by decide +kernel
theorem dX12_plateLine_108 : decode cX12_plateLine 108 = .ok (.iadd, 1) := by decide +kernel
theorem dX12_plateLine_109 : decode cX12_plateLine 109 = .ok (.invokestatic 162, 3) := by decide +kernel
theorem dX12_plateLine_112 : decode cX12_plateLine 112 = .ok (.iastore, 1) := by decide +kernel
theorem dX12_plateLine_113 : decode cX12_plateLine 113 = .ok (.iconst 1, 1) := by decide +kernel
theorem dX12_plateLine_114 : decode cX12_plateLine 114 = .ok (.ireturn, 1) := by decide +kernel
theorem dX12_stageLine_0 : decode cX12_stageLine 0 = .ok (.lload_n 1, 1) := by decide +kernel
theorem dX12_stageLine_1 : decode cX12_stageLine 1 = .ok (.ldc2_w 166, 3) := by decide +kernel
theorem dX12_stageLine_4 : decode cX12_stageLine 4 = .ok (.lcmp, 1) := by decide +kernel
theorem dX12_stageLine_5 : decode cX12_stageLine 5 = .ok (.ifCond .ne 9, 3) := by decide +kernel
theorem dX12_stageLine_8 : decode cX12_stageLine 8 = .ok (.aload_n 0, 1) := by decide +kernel
theorem dX12_stageLine_9 : decode cX12_stageLine 9 = .ok (.iload_n 3, 1) := by decide +kernel
theorem dX12_stageLine_10 : decode cX12_stageLine 10 = .ok (.invokevirtual 168, 3) := by decide +kernel
theorem dX12_stageLine_13 : decode cX12_stageLine 13 = .ok (.ireturn, 1) := by decide +kernel
theorem dX12_stageLine_14 : decode cX12_stageLine 14 = .ok (.lload_n 1, 1) := by decide +kernel
theorem dX12_stageLine_15 : decode cX12_stageLine 15 = .ok (.ldc2_w 172, 3) := by decide +kernel
theorem dX12_stageLine_18 : decode cX12_stageLine 18 = .ok (.lcmp, 1) := by decide +kernel
theorem dX12_stageLine_19 : decode cX12_stageLine 19 = .ok (.ifCond .eq 16, 3) := by decide +kernel
theorem dX12_stageLine_22 : decode cX12_stageLine 22 = .ok (.lload_n 1, 1) := by decide +kernel
theorem dX12_stageLine_23 : decode cX12_stageLine 23 = .ok (.ldc2_w 174, 3) := by decide +kernel
theorem dX12_stageLine_26 : decode cX12_stageLine 26 = .ok (.lcmp, 1) := by decide +kernel
theorem dX12_stageLine_27 : decode cX12_stageLine 27 = .ok (.ifCond .eq 8, 3) := by decide +kernel
theorem dX12_stageLine_30 : decode cX12_stageLine 30 = .ok (.aload_n 0, 1) := by decide +kernel
theorem dX12_stageLine_31 : decode cX12_stageLine 31 = .ok (.invokevirtual 140, 3) := by decide +kernel
theorem dX12_stageLine_34 : decode cX12_stageLine 34 = .ok (.ireturn, 1) := by decide +kernel
theorem dX12_stageLine_35 : decode cX12_stageLine 35 = .ok (.aload_n 0, 1) := by decide +kernel
theorem dX12_stageLine_36 : decode cX12_stageLine 36 = .ok (.invokevirtual 152, 3) := by decide +kernel
theorem dX12_stageLine_39 : decode cX12_stageLine 39 = .ok (.aload_n 0, 1) := by decide +kernel
theorem dX12_stageLine_40 : decode cX12_stageLine 40 = .ok (.iconst 0, 1) := by decide +kernel
theorem dX12_stageLine_41 : decode cX12_stageLine 41 = .ok (.lload_n 1, 1) := by decide +kernel
theorem dX12_stageLine_42 : decode cX12_stageLine 42 = .ok (.ldc2_w 172, 3) := by decide +kernel
theorem dX12_stageLine_45 : decode cX12_stageLine 45 = .ok (.lcmp, 1) := by decide +kernel
theorem dX12_stageLine_46 : decode cX12_stageLine 46 = .ok (.ifCond .ne 7, 3) := by decide +kernel
theorem dX12_stageLine_49 : decode cX12_stageLine 49 = .ok (.iconst 1, 1) := by decide +kernel
theorem dX12_stageLine_50 : decode cX12_stageLine 50 = .ok (.goto 4, 3) := by decide +kernel
theorem dX12_stageLine_53 : decode cX12_stageLine 53 = .ok (.iconst 0, 1) := by decide +kernel
theorem dX12_stageLine_54 : decode cX12_stageLine 54 = .ok (.bipush 9, 2) := by decide +kernel
theorem dX12_stageLine_56 : decode cX12_stageLine 56 = .ok (.invokevirtual 159, 3) := by decide +kernel
theorem dX12_stageLine_59 : decode cX12_stageLine 59 = .ok (.ifCond .ne 5, 3) := by decide +kernel
theorem dX12_stageLine_62 : decode cX12_stageLine 62 = .ok (.iconst 0, 1) := by decide +kernel
theorem dX12_stageLine_63 : decode cX12_stageLine 63 = .ok (.ireturn, 1) := by decide +kernel
theorem dX12_stageLine_64 : decode cX12_stageLine 64 = .ok (.lload_n 1, 1) := by decide +kernel
theorem dX12_stageLine_65 : decode cX12_stageLine 65 = .ok (.ldc2_w 172, 3) := by decide +kernel
theorem dX12_stageLine_68 : decode cX12_stageLine 68 = .ok (.lcmp, 1) := by decide +kernel
theorem dX12_stageLine_69 : decode cX12_stageLine 69 = .ok (.ifCond .ne 7, 3) := by decide +kernel
theorem dX12_stageLine_72 : decode cX12_stageLine 72 = .ok (.iconst 0, 1) := by decide +kernel
theorem dX12_stageLine_73 : decode cX12_stageLine 73 = .ok (.goto 4, 3) := by decide +kernel
theorem dX12_stageLine_76 : decode cX12_stageLine 76 = .ok (.iconst 1, 1) := by decide +kernel
theorem dX12_stageLine_77 : decode cX12_stageLine 77 = .ok (.istore 4, 2) := by decide +kernel
theorem dX12_stageLine_79 : decode cX12_stageLine 79 = .ok (.aload_n 0, 1) := by decide +kernel
theorem dX12_stageLine_80 : decode cX12_stageLine 80 = .ok (.getfield 35, 3) := by decide +kernel
theorem dX12_stageLine_83 : decode cX12_stageLine 83 = .ok (.iload 4, 2) := by decide +kernel
theorem dX12_stageLine_85 : decode cX12_stageLine 85 = .ok (.aload_n 0, 1) := by decide +kernel
theorem dX12_stageLine_86 : decode cX12_stageLine 86 = .ok (.getfield 148, 3) := by decide +kernel
theorem dX12_stageLine_89 : decode cX12_stageLine 89 = .ok (.ifCond .eq 12, 3) := by decide +kernel
theorem dX12_stageLine_92 : decode cX12_stageLine 92 = .ok (.aload_n 0, 1) := by decide +kernel
theorem dX12_stageLine_93 : decode cX12_stageLine 93 = .ok (.getfield 38, 3) := by decide +kernel
theorem dX12_stageLine_96 : decode cX12_stageLine 96 = .ok (.iconst 0, 1) := by decide +kernel
theorem dX12_stageLine_97 : decode cX12_stageLine 97 = .ok (.iaload, 1) := by decide +kernel
theorem dX12_stageLine_98 : decode cX12_stageLine 98 = .ok (.goto 10, 3) := by decide +kernel
theorem dX12_stageLine_101 : decode cX12_stageLine 101 = .ok (.aload_n 0, 1) := by decide +kernel
theorem dX12_stageLine_102 : decode cX12_stageLine 102 = .ok (.getfield 35, 3) := by decide +kernel
theorem dX12_stageLine_105 : decode cX12_stageLine 105 = .ok (.iload 4, 2) := by decide +kernel
theorem dX12_stageLine_107 : decode cX12_stageLine 107 = .ok (.iaload, 1) := by decide +kernel
theorem dX12_stageLine_108 : decode cX12_stageLine 108 = .ok (.iastore, 1) := by decide +kernel
theorem dX12_stageLine_109 : decode cX12_stageLine 109 = .ok (.iconst 1, 1) := by decide +kernel
theorem dX12_stageLine_110 : decode cX12_stageLine 110 = .ok (.ireturn, 1) := by decide +kernel
theorem dX12_deedBy_0 : decode cX12_deedBy 0 = .ok (.lload_n 1, 1) := by decide +kernel
theorem dX12_deedBy_1 : decode cX12_deedBy 1 = .ok (.ldc2_w 176, 3) := by decide +kernel
theorem dX12_deedBy_4 : decode cX12_deedBy 4 = .ok (.lcmp, 1) := by decide +kernel
theorem dX12_deedBy_5 : decode cX12_deedBy 5 = .ok (.ifCond .ne 7, 3) := by decide +kernel
theorem dX12_deedBy_8 : decode cX12_deedBy 8 = .ok (.iconst 0, 1) := by decide +kernel
theorem dX12_deedBy_9 : decode cX12_deedBy 9 = .ok (.goto 52, 3) := by decide +kernel
theorem dX12_deedBy_12 : decode cX12_deedBy 12 = .ok (.lload_n 1, 1) := by decide +kernel
theorem dX12_deedBy_13 : decode cX12_deedBy 13 = .ok (.ldc2_w 178, 3) := by decide +kernel
theorem dX12_deedBy_16 : decode cX12_deedBy 16 = .ok (.lcmp, 1) := by decide +kernel
theorem dX12_deedBy_17 : decode cX12_deedBy 17 = .ok (.ifCond .ne 7, 3) := by decide +kernel
theorem dX12_deedBy_20 : decode cX12_deedBy 20 = .ok (.iconst 1, 1) := by decide +kernel
theorem dX12_deedBy_21 : decode cX12_deedBy 21 = .ok (.goto 40, 3) := by decide +kernel
theorem dX12_deedBy_24 : decode cX12_deedBy 24 = .ok (.lload_n 1, 1) := by decide +kernel
theorem dX12_deedBy_25 : decode cX12_deedBy 25 = .ok (.ldc2_w 180, 3) := by decide +kernel
theorem dX12_deedBy_28 : decode cX12_deedBy 28 = .ok (.lcmp, 1) := by decide +kernel
theorem dX12_deedBy_29 : decode cX12_deedBy 29 = .ok (.ifCond .ne 7, 3) := by decide +kernel
theorem dX12_deedBy_32 : decode cX12_deedBy 32 = .ok (.iconst 2, 1) := by decide +kernel
theorem dX12_deedBy_33 : decode cX12_deedBy 33 = .ok (.goto 28, 3) := by decide +kernel
theorem dX12_deedBy_36 : decode cX12_deedBy 36 = .ok (.lload_n 1, 1) := by decide +kernel
theorem dX12_deedBy_37 : decode cX12_deedBy 37 = .ok (.ldc2_w 182, 3) := by decide +kernel
theorem dX12_deedBy_40 : decode cX12_deedBy 40 = .ok (.lcmp, 1) := by decide +kernel
theorem dX12_deedBy_41 : decode cX12_deedBy 41 = .ok (.ifCond .ne 7, 3) := by decide +kernel
theorem dX12_deedBy_44 : decode cX12_deedBy 44 = .ok (.iconst 3, 1) := by decide +kernel
theorem dX12_deedBy_45 : decode cX12_deedBy 45 = .ok (.goto 16, 3) := by decide +kernel
theorem dX12_deedBy_48 : decode cX12_deedBy 48 = .ok (.lload_n 1, 1) := by decide +kernel
theorem dX12_deedBy_49 : decode cX12_deedBy 49 = .ok (.ldc2_w 184, 3) := by decide +kernel
theorem dX12_deedBy_52 : decode cX12_deedBy 52 = .ok (.lcmp, 1) := by decide +kernel
theorem dX12_deedBy_53 : decode cX12_deedBy 53 = .ok (.ifCond .ne 7, 3) := by decide +kernel
theorem dX12_deedBy_56 : decode cX12_deedBy 56 = .ok (.iconst 4, 1) := by decide +kernel
theorem dX12_deedBy_57 : decode cX12_deedBy 57 = .ok (.goto 4, 3) := by decide +kernel
theorem dX12_deedBy_60 : decode cX12_deedBy 60 = .ok (.iconst (-1), 1) := by decide +kernel
theorem dX12_deedBy_61 : decode cX12_deedBy 61 = .ok (.ireturn, 1) := by decide +kernel
theorem dX12_showLine_0 : decode cX12_showLine 0 = .ok (.aload_n 0, 1) := by decide +kernel
theorem dX12_showLine_1 : decode cX12_showLine 1 = .ok (.lload_n 1, 1) := by decide +kernel
theorem dX12_showLine_2 : decode cX12_showLine 2 = .ok (.invokevirtual 186, 3) := by decide +kernel
theorem dX12_showLine_5 : decode cX12_showLine 5 = .ok (.istore 4, 2) := by decide +kernel
theorem dX12_showLine_7 : decode cX12_showLine 7 = .ok (.iload 4, 2) := by decide +kernel
theorem dX12_showLine_9 : decode cX12_showLine 9 = .ok (.iconst (-1), 1) := by decide +kernel
theorem dX12_showLine_10 : decode cX12_showLine 10 = .ok (.if_icmp .ne 8, 3) := by decide +kernel
theorem dX12_showLine_13 : decode cX12_showLine 13 = .ok (.aload_n 0, 1) := by decide +kernel
theorem dX12_showLine_14 : decode cX12_showLine 14 = .ok (.invokevirtual 140, 3) := by decide +kernel
theorem dX12_showLine_17 : decode cX12_showLine 17 = .ok (.ireturn, 1) := by decide +kernel
theorem dX12_showLine_18 : decode cX12_showLine 18 = .ok (.aload_n 0, 1) := by decide +kernel
theorem dX12_showLine_19 : decode cX12_showLine 19 = .ok (.iconst 0, 1) := by decide +kernel
theorem dX12_showLine_20 : decode cX12_showLine 20 = .ok (.bipush 40, 2) := by decide +kernel
theorem dX12_showLine_22 : decode cX12_showLine 22 = .ok (.iload_n 3, 1) := by decide +kernel
theorem dX12_showLine_23 : decode cX12_showLine 23 = .ok (.invokevirtual 155, 3) := by decide +kernel
theorem dX12_showLine_26 : decode cX12_showLine 26 = .ok (.aload_n 0, 1) := by decide +kernel
theorem dX12_showLine_27 : decode cX12_showLine 27 = .ok (.invokevirtual 152, 3) := by decide +kernel
theorem dX12_showLine_30 : decode cX12_showLine 30 = .ok (.aload_n 0, 1) := by decide +kernel
theorem dX12_showLine_31 : decode cX12_showLine 31 = .ok (.getfield 38, 3) := by decide +kernel
theorem dX12_showLine_34 : decode cX12_showLine 34 = .ok (.iconst 1, 1) := by decide +kernel
theorem dX12_showLine_35 : decode cX12_showLine 35 = .ok (.iconst (-1), 1) := by decide +kernel
theorem dX12_showLine_36 : decode cX12_showLine 36 = .ok (.iastore, 1) := by decide +kernel
theorem dX12_showLine_37 : decode cX12_showLine 37 = .ok (.iload 4, 2) := by decide +kernel
theorem dX12_showLine_39 : decode cX12_showLine 39 = .ok (.ifCond .eq 15, 3) := by decide +kernel
theorem dX12_showLine_42 : decode cX12_showLine 42 = .ok (.aload_n 0, 1) := by decide +kernel
theorem dX12_showLine_43 : decode cX12_showLine 43 = .ok (.iconst 1, 1) := by decide +kernel
theorem dX12_showLine_44 : decode cX12_showLine 44 = .ok (.iconst 0, 1) := by decide +kernel
theorem dX12_showLine_45 : decode cX12_showLine 45 = .ok (.iconst 4, 1) := by decide +kernel
theorem dX12_showLine_46 : decode cX12_showLine 46 = .ok (.invokevirtual 159, 3) := by decide +kernel
theorem dX12_showLine_49 : decode cX12_showLine 49 = .ok (.ifCond .ne 5, 3) := by decide +kernel
theorem dX12_showLine_52 : decode cX12_showLine 52 = .ok (.iconst 0, 1) := by decide +kernel
theorem dX12_showLine_53 : decode cX12_showLine 53 = .ok (.ireturn, 1) := by decide +kernel
theorem dX12_showLine_54 : decode cX12_showLine 54 = .ok (.aload_n 0, 1) := by decide +kernel
theorem dX12_showLine_55 : decode cX12_showLine 55 = .ok (.getfield 35, 3) := by decide +kernel
theorem dX12_showLine_58 : decode cX12_showLine 58 = .ok (.iconst 0, 1) := by decide +kernel
theorem dX12_showLine_59 : decode cX12_showLine 59 = .ok (.iaload, 1) := by decide +kernel
theorem dX12_showLine_60 : decode cX12_showLine 60 = .ok (.istore 5, 2) := by decide +kernel
theorem dX12_showLine_62 : decode cX12_showLine 62 = .ok (.iload 5, 2) := by decide +kernel
theorem dX12_showLine_64 : decode cX12_showLine 64 = .ok (.bipush 40, 2) := by decide +kernel
theorem dX12_showLine_66 : decode cX12_showLine 66 = .ok (.if_icmp .ge 33, 3) := by decide +kernel
theorem dX12_showLine_69 : decode cX12_showLine 69 = .ok (.aload_n 0, 1) := by decide +kernel
theorem dX12_showLine_70 : decode cX12_showLine 70 = .ok (.getfield 35, 3) := by decide +kernel
theorem dX12_showLine_73 : decode cX12_showLine 73 = .ok (.iconst 1, 1) := by decide +kernel
theorem dX12_showLine_74 : decode cX12_showLine 74 = .ok (.iconst 2, 1) := by decide +kernel
theorem dX12_showLine_75 : decode cX12_showLine 75 = .ok (.iload 5, 2) := by decide +kernel
theorem dX12_showLine_77 : decode cX12_showLine 77 = .ok (.imul, 1) := by decide +kernel
theorem dX12_showLine_78 : decode cX12_showLine 78 = .ok (.iadd, 1) := by decide +kernel
theorem dX12_showLine_79 : decode cX12_showLine 79 = .ok (.iload 4, 2) := by decide +kernel
theorem dX12_showLine_81 : decode cX12_showLine 81 = .ok (.iastore, 1) := by decide +kernel
theorem dX12_showLine_82 : decode cX12_showLine 82 = .ok (.aload_n 0, 1) := by decide +kernel
theorem dX12_showLine_83 : decode cX12_showLine 83 = .ok (.getfield 35, 3) := by decide +kernel
theorem dX12_showLine_86 : decode cX12_showLine 86 = .ok (.iconst 2, 1) := by decide +kernel
theorem dX12_showLine_87 : decode cX12_showLine 87 = .ok (.iconst 2, 1) := by decide +kernel
theorem dX12_showLine_88 : decode cX12_showLine 88 = .ok (.iload 5, 2) := by decide +kernel
theorem dX12_showLine_90 : decode cX12_showLine 90 = .ok (.imul, 1) := by decide +kernel
theorem dX12_showLine_91 : decode cX12_showLine 91 = .ok (.iadd, 1) := by decide +kernel
theorem dX12_showLine_92 : decode cX12_showLine 92 = .ok (.aload_n 0, 1) := by decide +kernel
theorem dX12_showLine_93 : decode cX12_showLine 93 = .ok (.getfield 38, 3) := by decide +kernel
theorem dX12_showLine_96 : decode cX12_showLine 96 = .ok (.iconst 1, 1) := by decide +kernel
theorem dX12_showLine_97 : decode cX12_showLine 97 = .ok (.iaload, 1) := by decide +kernel
theorem dX12_showLine_98 : decode cX12_showLine 98 = .ok (.iastore, 1) := by decide +kernel
theorem dX12_showLine_99 : decode cX12_showLine 99 = .ok (.aload_n 0, 1) := by decide +kernel
theorem dX12_showLine_100 : decode cX12_showLine 100 = .ok (.getfield 35, 3) := by decide +kernel
theorem dX12_showLine_103 : decode cX12_showLine 103 = .ok (.iconst 0, 1) := by decide +kernel
theorem dX12_showLine_104 : decode cX12_showLine 104 = .ok (.bipush 40, 2) := by decide +kernel
theorem dX12_showLine_106 : decode cX12_showLine 106 = .ok (.iload 5, 2) := by decide +kernel
theorem dX12_showLine_108 : decode cX12_showLine 108 = .ok (.iconst 1, 1) := by decide +kernel
theorem dX12_showLine_109 : decode cX12_showLine 109 = .ok (.iadd, 1) := by decide +kernel
theorem dX12_showLine_110 : decode cX12_showLine 110 = .ok (.invokestatic 162, 3) := by decide +kernel
theorem dX12_showLine_113 : decode cX12_showLine 113 = .ok (.iastore, 1) := by decide +kernel
theorem dX12_showLine_114 : decode cX12_showLine 114 = .ok (.iconst 1, 1) := by decide +kernel
theorem dX12_showLine_115 : decode cX12_showLine 115 = .ok (.ireturn, 1) := by decide +kernel
theorem dX12_logLine_0 : decode cX12_logLine 0 = .ok (.lload_n 1, 1) := by decide +kernel
theorem dX12_logLine_1 : decode cX12_logLine 1 = .ok (.ldc2_w 190, 3) := by decide +kernel
theorem dX12_logLine_4 : decode cX12_logLine 4 = .ok (.lcmp, 1) := by decide +kernel
theorem dX12_logLine_5 : decode cX12_logLine 5 = .ok (.ifCond .eq 24, 3) := by decide +kernel
theorem dX12_logLine_8 : decode cX12_logLine 8 = .ok (.lload_n 1, 1) := by decide +kernel
theorem dX12_logLine_9 : decode cX12_logLine 9 = .ok (.ldc2_w 192, 3) := by decide +kernel
theorem dX12_logLine_12 : decode cX12_logLine 12 = .ok (.lcmp, 1) := by decide +kernel
theorem dX12_logLine_13 : decode cX12_logLine 13 = .ok (.ifCond .eq 16, 3) := by decide +kernel
theorem dX12_logLine_16 : decode cX12_logLine 16 = .ok (.lload_n 1, 1) := by decide +kernel
theorem dX12_logLine_17 : decode cX12_logLine 17 = .ok (.ldc2_w 194, 3) := by decide +kernel
theorem dX12_logLine_20 : decode cX12_logLine 20 = .ok (.lcmp, 1) := by decide +kernel
theorem dX12_logLine_21 : decode cX12_logLine 21 = .ok (.ifCond .eq 8, 3) := by decide +kernel
theorem dX12_logLine_24 : decode cX12_logLine 24 = .ok (.aload_n 0, 1) := by decide +kernel
theorem dX12_logLine_25 : decode cX12_logLine 25 = .ok (.invokevirtual 140, 3) := by decide +kernel
theorem dX12_logLine_28 : decode cX12_logLine 28 = .ok (.ireturn, 1) := by decide +kernel
theorem dX12_logLine_29 : decode cX12_logLine 29 = .ok (.lload_n 1, 1) := by decide +kernel
theorem dX12_logLine_30 : decode cX12_logLine 30 = .ok (.ldc2_w 190, 3) := by decide +kernel
theorem dX12_logLine_33 : decode cX12_logLine 33 = .ok (.lcmp, 1) := by decide +kernel
theorem dX12_logLine_34 : decode cX12_logLine 34 = .ok (.ifCond .ne 49, 3) := by decide +kernel
theorem dX12_logLine_37 : decode cX12_logLine 37 = .ok (.aload_n 0, 1) := by decide +kernel
theorem dX12_logLine_38 : decode cX12_logLine 38 = .ok (.invokevirtual 152, 3) := by decide +kernel
theorem dX12_logLine_41 : decode cX12_logLine 41 = .ok (.aload_n 0, 1) := by decide +kernel
theorem dX12_logLine_42 : decode cX12_logLine 42 = .ok (.iconst 0, 1) := by decide +kernel
theorem dX12_logLine_43 : decode cX12_logLine 43 = .ok (.iconst 0, 1) := by decide +kernel
theorem dX12_logLine_44 : decode cX12_logLine 44 = .ok (.iconst 4, 1) := by decide +kernel
theorem dX12_logLine_45 : decode cX12_logLine 45 = .ok (.invokevirtual 159, 3) := by decide +kernel
theorem dX12_logLine_48 : decode cX12_logLine 48 = .ok (.ifCond .ne 5, 3) := by decide +kernel
theorem dX12_logLine_51 : decode cX12_logLine 51 = .ok (.iconst 0, 1) := by decide +kernel
theorem dX12_logLine_52 : decode cX12_logLine 52 = .ok (.ireturn, 1) := by decide +kernel
theorem dX12_logLine_53 : decode cX12_logLine 53 = .ok (.aload_n 0, 1) := by decide +kernel
theorem dX12_logLine_54 : decode cX12_logLine 54 = .ok (.getfield 35, 3) := by decide +kernel
theorem dX12_logLine_57 : decode cX12_logLine 57 = .ok (.iconst 0, 1) := by decide +kernel
theorem dX12_logLine_58 : decode cX12_logLine 58 = .ok (.aload_n 0, 1) := by decide +kernel
theorem dX12_logLine_59 : decode cX12_logLine 59 = .ok (.getfield 148, 3) := by decide +kernel
theorem dX12_logLine_62 : decode cX12_logLine 62 = .ok (.ifCond .eq 12, 3) := by decide +kernel
theorem dX12_logLine_65 : decode cX12_logLine 65 = .ok (.aload_n 0, 1) := by decide +kernel
theorem dX12_logLine_66 : decode cX12_logLine 66 = .ok (.getfield 38, 3) := by decide +kernel
theorem dX12_logLine_69 : decode cX12_logLine 69 = .ok (.iconst 0, 1) := by decide +kernel
theorem dX12_logLine_70 : decode cX12_logLine 70 = .ok (.iaload, 1) := by decide +kernel
theorem dX12_logLine_71 : decode cX12_logLine 71 = .ok (.goto 9, 3) := by decide +kernel
theorem dX12_logLine_74 : decode cX12_logLine 74 = .ok (.aload_n 0, 1) := by decide +kernel
theorem dX12_logLine_75 : decode cX12_logLine 75 = .ok (.getfield 35, 3) := by decide +kernel
theorem dX12_logLine_78 : decode cX12_logLine 78 = .ok (.iconst 0, 1) := by decide +kernel
theorem dX12_logLine_79 : decode cX12_logLine 79 = .ok (.iaload, 1) := by decide +kernel
theorem dX12_logLine_80 : decode cX12_logLine 80 = .ok (.iastore, 1) := by decide +kernel
theorem dX12_logLine_81 : decode cX12_logLine 81 = .ok (.iconst 1, 1) := by decide +kernel
theorem dX12_logLine_82 : decode cX12_logLine 82 = .ok (.ireturn, 1) := by decide +kernel
theorem dX12_logLine_83 : decode cX12_logLine 83 = .ok (.aload_n 0, 1) := by decide +kernel
theorem dX12_logLine_84 : decode cX12_logLine 84 = .ok (.iconst 1, 1) := by decide +kernel
theorem dX12_logLine_85 : decode cX12_logLine 85 = .ok (.bipush 8, 2) := by decide +kernel
theorem dX12_logLine_87 : decode cX12_logLine 87 = .ok (.iload_n 3, 1) := by decide +kernel
theorem dX12_logLine_88 : decode cX12_logLine 88 = .ok (.invokevirtual 155, 3) := by decide +kernel
theorem dX12_logLine_91 : decode cX12_logLine 91 = .ok (.aload_n 0, 1) := by decide +kernel
theorem dX12_logLine_92 : decode cX12_logLine 92 = .ok (.invokevirtual 152, 3) := by decide +kernel
theorem dX12_logLine_95 : decode cX12_logLine 95 = .ok (.aload_n 0, 1) := by decide +kernel
theorem dX12_logLine_96 : decode cX12_logLine 96 = .ok (.iconst 1, 1) := by decide +kernel
theorem dX12_logLine_97 : decode cX12_logLine 97 = .ok (.iconst 0, 1) := by decide +kernel
theorem dX12_logLine_98 : decode cX12_logLine 98 = .ok (.iconst 4, 1) := by decide +kernel
theorem dX12_logLine_99 : decode cX12_logLine 99 = .ok (.invokevirtual 159, 3) := by decide +kernel
theorem dX12_logLine_102 : decode cX12_logLine 102 = .ok (.ifCond .eq 14, 3) := by decide +kernel
theorem dX12_logLine_105 : decode cX12_logLine 105 = .ok (.aload_n 0, 1) := by decide +kernel
theorem dX12_logLine_106 : decode cX12_logLine 106 = .ok (.iconst 2, 1) := by decide +kernel
theorem dX12_logLine_107 : decode cX12_logLine 107 = .ok (.iconst 0, 1) := by decide +kernel
theorem dX12_logLine_108 : decode cX12_logLine 108 = .ok (.bipush 30, 2) := by decide +kernel
theorem dX12_logLine_110 : decode cX12_logLine 110 = .ok (.invokevirtual 159, 3) := by decide +kernel
theorem dX12_logLine_113 : decode cX12_logLine 113 = .ok (.ifCond .ne 5, 3) := by decide +kernel
theorem dX12_logLine_116 : decode cX12_logLine 116 = .ok (.iconst 0, 1) := by decide +kernel
theorem dX12_logLine_117 : decode cX12_logLine 117 = .ok (.ireturn, 1) := by decide +kernel
theorem dX12_logLine_118 : decode cX12_logLine 118 = .ok (.aload_n 0, 1) := by decide +kernel
theorem dX12_logLine_119 : decode cX12_logLine 119 = .ok (.getfield 35, 3) := by decide +kernel
theorem dX12_logLine_122 : decode cX12_logLine 122 = .ok (.iconst 1, 1) := by decide +kernel
theorem dX12_logLine_123 : decode cX12_logLine 123 = .ok (.iaload, 1) := by decide +kernel
theorem dX12_logLine_124 : decode cX12_logLine 124 = .ok (.istore 4, 2) := by decide +kernel
theorem dX12_logLine_126 : decode cX12_logLine 126 = .ok (.aload_n 0, 1) := by decide +kernel
theorem dX12_logLine_127 : decode cX12_logLine 127 = .ok (.getfield 38, 3) := by decide +kernel
theorem dX12_logLine_130 : decode cX12_logLine 130 = .ok (.iconst 0, 1) := by decide +kernel
theorem dX12_logLine_131 : decode cX12_logLine 131 = .ok (.lload_n 1, 1) := by decide +kernel
theorem dX12_logLine_132 : decode cX12_logLine 132 = .ok (.ldc2_w 192, 3) := by decide +kernel
theorem dX12_logLine_135 : decode cX12_logLine 135 = .ok (.lcmp, 1) := by decide +kernel
theorem dX12_logLine_136 : decode cX12_logLine 136 = .ok (.ifCond .ne 7, 3) := by decide +kernel
theorem dX12_logLine_139 : decode cX12_logLine 139 = .ok (.iconst 1, 1) := by decide +kernel
theorem dX12_logLine_140 : decode cX12_logLine 140 = .ok (.goto 4, 3) := by decide +kernel
theorem dX12_logLine_143 : decode cX12_logLine 143 = .ok (.iconst 0, 1) := by decide +kernel
theorem dX12_logLine_144 : decode cX12_logLine 144 = .ok (.iastore, 1) := by decide +kernel
theorem dX12_logLine_145 : decode cX12_logLine 145 = .ok (.iconst 0, 1) := by decide +kernel
theorem dX12_logLine_146 : decode cX12_logLine 146 = .ok (.istore 5, 2) := by decide +kernel
theorem dX12_logLine_148 : decode cX12_logLine 148 = .ok (.iload 5, 2) := by decide +kernel
theorem dX12_logLine_150 : decode cX12_logLine 150 = .ok (.iconst 3, 1) := by decide +kernel
theorem dX12_logLine_151 : decode cX12_logLine 151 = .ok (.if_icmp .ge 37, 3) := by decide +kernel
theorem dX12_logLine_154 : decode cX12_logLine 154 = .ok (.iload 4, 2) := by decide +kernel
theorem dX12_logLine_156 : decode cX12_logLine 156 = .ok (.bipush 8, 2) := by decide +kernel
theorem dX12_logLine_158 : decode cX12_logLine 158 = .ok (.if_icmp .ge 30, 3) := by decide +kernel
theorem dX12_logLine_161 : decode cX12_logLine 161 = .ok (.aload_n 0, 1) := by decide +kernel
theorem dX12_logLine_162 : decode cX12_logLine 162 = .ok (.getfield 35, 3) := by decide +kernel
theorem dX12_logLine_165 : decode cX12_logLine 165 = .ok (.iconst 2, 1) := by decide +kernel
theorem dX12_logLine_166 : decode cX12_logLine 166 = .ok (.iconst 3, 1) := by decide +kernel
theorem dX12_logLine_167 : decode cX12_logLine 167 = .ok (.iload 4, 2) := by decide +kernel
theorem dX12_logLine_169 : decode cX12_logLine 169 = .ok (.imul, 1) := by decide +kernel
theorem dX12_logLine_170 : decode cX12_logLine 170 = .ok (.iadd, 1) := by decide +kernel
theorem dX12_logLine_171 : decode cX12_logLine 171 = .ok (.iload 5, 2) := by decide +kernel
theorem dX12_logLine_173 : decode cX12_logLine 173 = .ok (.iadd, 1) := by decide +kernel
theorem dX12_logLine_174 : decode cX12_logLine 174 = .ok (.aload_n 0, 1) := by decide +kernel
theorem dX12_logLine_175 : decode cX12_logLine 175 = .ok (.getfield 38, 3) := by decide +kernel
theorem dX12_logLine_178 : decode cX12_logLine 178 = .ok (.iload 5, 2) := by decide +kernel
theorem dX12_logLine_180 : decode cX12_logLine 180 = .ok (.iaload, 1) := by decide +kernel
theorem dX12_logLine_181 : decode cX12_logLine 181 = .ok (.iastore, 1) := by decide +kernel
theorem dX12_logLine_182 : decode cX12_logLine 182 = .ok (.iinc 5 1, 3) := by decide +kernel
theorem dX12_logLine_185 : decode cX12_logLine 185 = .ok (.goto (-37), 3) := by decide +kernel
theorem dX12_logLine_188 : decode cX12_logLine 188 = .ok (.aload_n 0, 1) := by decide +kernel
theorem dX12_logLine_189 : decode cX12_logLine 189 = .ok (.getfield 35, 3) := by decide +kernel
theorem dX12_logLine_192 : decode cX12_logLine 192 = .ok (.iconst 1, 1) := by decide +kernel
theorem dX12_logLine_193 : decode cX12_logLine 193 = .ok (.bipush 8, 2) := by decide +kernel
theorem dX12_logLine_195 : decode cX12_logLine 195 = .ok (.iload 4, 2) := by decide +kernel
theorem dX12_logLine_197 : decode cX12_logLine 197 = .ok (.iconst 1, 1) := by decide +kernel
theorem dX12_logLine_198 : decode cX12_logLine 198 = .ok (.iadd, 1) := by decide +kernel
theorem dX12_logLine_199 : decode cX12_logLine 199 = .ok (.invokestatic 162, 3) := by decide +kernel
theorem dX12_logLine_202 : decode cX12_logLine 202 = .ok (.iastore, 1) := by decide +kernel
theorem dX12_logLine_203 : decode cX12_logLine 203 = .ok (.iconst 1, 1) := by decide +kernel
theorem dX12_logLine_204 : decode cX12_logLine 204 = .ok (.ireturn, 1) := by decide +kernel
theorem dX12_allLines_0 : decode cX12_allLines 0 = .ok (.iconst 1, 1) := by decide +kernel
theorem dX12_allLines_1 : decode cX12_allLines 1 = .ok (.istore_n 2, 1) := by decide +kernel
theorem dX12_allLines_2 : decode cX12_allLines 2 = .ok (.iload_n 2, 1) := by decide +kernel
theorem dX12_allLines_3 : decode cX12_allLines 3 = .ok (.ifCond .eq 103, 3) := by decide +kernel
theorem dX12_allLines_6 : decode cX12_allLines 6 = .ok (.aload_n 0, 1) := by decide +kernel
theorem dX12_allLines_7 : decode cX12_allLines 7 = .ok (.getfield 125, 3) := by decide +kernel
theorem dX12_allLines_10 : decode cX12_allLines 10 = .ok (.ifCond .eq 96, 3) := by decide +kernel
theorem dX12_allLines_13 : decode cX12_allLines 13 = .ok (.aload_n 0, 1) := by decide +kernel
theorem dX12_allLines_14 : decode cX12_allLines 14 = .ok (.getfield 118, 3) := by decide +kernel
theorem dX12_allLines_17 : decode cX12_allLines 17 = .ok (.istore_n 3, 1) := by decide +kernel
theorem dX12_allLines_18 : decode cX12_allLines 18 = .ok (.aload_n 0, 1) := by decide +kernel
theorem dX12_allLines_19 : decode cX12_allLines 19 = .ok (.getfield 125, 3) := by decide +kernel
theorem dX12_allLines_22 : decode cX12_allLines 22 = .ok (.iconst 2, 1) := by decide +kernel
theorem dX12_allLines_23 : decode cX12_allLines 23 = .ok (.if_icmp .ne 10, 3) := by decide +kernel
theorem dX12_allLines_26 : decode cX12_allLines 26 = .ok (.aload_n 0, 1) := by decide +kernel
theorem dX12_allLines_27 : decode cX12_allLines 27 = .ok (.getfield 121, 3) := by decide +kernel
theorem dX12_allLines_30 : decode cX12_allLines 30 = .ok (.goto 4, 3) := by decide +kernel
theorem dX12_allLines_33 : decode cX12_allLines 33 = .ok (.lconst 0, 1) := by decide +kernel
theorem dX12_allLines_34 : decode cX12_allLines 34 = .ok (.lstore 4, 2) := by decide +kernel
theorem dX12_allLines_36 : decode cX12_allLines 36 = .ok (.aload_n 0, 1) := by decide +kernel
theorem dX12_allLines_37 : decode cX12_allLines 37 = .ok (.iconst 1, 1) := by decide +kernel
theorem dX12_allLines_38 : decode cX12_allLines 38 = .ok (.putfield 148, 3) := by decide +kernel
theorem dX12_allLines_41 : decode cX12_allLines 41 = .ok (.iload_n 1, 1) := by decide +kernel
theorem dX12_allLines_42 : decode cX12_allLines 42 = .ok (.ifCond .ne 13, 3) := by decide +kernel
theorem dX12_allLines_45 : decode cX12_allLines 45 = .ok (.aload_n 0, 1) := by decide +kernel
theorem dX12_allLines_46 : decode cX12_allLines 46 = .ok (.lload 4, 2) := by decide +kernel
theorem dX12_allLines_48 : decode cX12_allLines 48 = .ok (.iload_n 3, 1) := by decide +kernel
theorem dX12_allLines_49 : decode cX12_allLines 49 = .ok (.invokevirtual 196, 3) := by decide +kernel
theorem dX12_allLines_52 : decode cX12_allLines 52 = .ok (.goto 25, 3) := by decide +kernel
theorem dX12_allLines_55 : decode cX12_allLines 55 = .ok (.iload_n 1, 1) := by decide +kernel
theorem dX12_allLines_56 : decode cX12_allLines 56 = .ok (.iconst 1, 1) := by decide +kernel
theorem dX12_allLines_57 : decode cX12_allLines 57 = .ok (.if_icmp .ne 13, 3) := by decide +kernel
theorem dX12_allLines_60 : decode cX12_allLines 60 = .ok (.aload_n 0, 1) := by decide +kernel
theorem dX12_allLines_61 : decode cX12_allLines 61 = .ok (.lload 4, 2) := by decide +kernel
theorem dX12_allLines_63 : decode cX12_allLines 63 = .ok (.iload_n 3, 1) := by decide +kernel
theorem dX12_allLines_64 : decode cX12_allLines 64 = .ok (.invokevirtual 200, 3) := by decide +kernel
theorem dX12_allLines_67 : decode cX12_allLines 67 = .ok (.goto 10, 3) := by decide +kernel
theorem dX12_allLines_70 : decode cX12_allLines 70 = .ok (.aload_n 0, 1) := by decide +kernel
theorem dX12_allLines_71 : decode cX12_allLines 71 = .ok (.lload 4, 2) := by decide +kernel
theorem dX12_allLines_73 : decode cX12_allLines 73 = .ok (.iload_n 3, 1) := by decide +kernel
theorem dX12_allLines_74 : decode cX12_allLines 74 = .ok (.invokevirtual 203, 3) := by decide +kernel
theorem dX12_allLines_77 : decode cX12_allLines 77 = .ok (.istore_n 2, 1) := by decide +kernel
theorem dX12_allLines_78 : decode cX12_allLines 78 = .ok (.iload_n 2, 1) := by decide +kernel
theorem dX12_allLines_79 : decode cX12_allLines 79 = .ok (.ifCond .eq 16, 3) := by decide +kernel
theorem dX12_allLines_82 : decode cX12_allLines 82 = .ok (.aload_n 0, 1) := by decide +kernel
theorem dX12_allLines_83 : decode cX12_allLines 83 = .ok (.getfield 125, 3) := by decide +kernel
theorem dX12_allLines_86 : decode cX12_allLines 86 = .ok (.iconst 4, 1) := by decide +kernel
theorem dX12_allLines_87 : decode cX12_allLines 87 = .ok (.if_icmp .eq 8, 3) := by decide +kernel
theorem dX12_allLines_90 : decode cX12_allLines 90 = .ok (.aload_n 0, 1) := by decide +kernel
theorem dX12_allLines_91 : decode cX12_allLines 91 = .ok (.invokevirtual 140, 3) := by decide +kernel
theorem dX12_allLines_94 : decode cX12_allLines 94 = .ok (.istore_n 2, 1) := by decide +kernel
theorem dX12_allLines_95 : decode cX12_allLines 95 = .ok (.iload_n 2, 1) := by decide +kernel
theorem dX12_allLines_96 : decode cX12_allLines 96 = .ok (.ifCond .eq 7, 3) := by decide +kernel
theorem dX12_allLines_99 : decode cX12_allLines 99 = .ok (.aload_n 0, 1) := by decide +kernel
theorem dX12_allLines_100 : decode cX12_allLines 100 = .ok (.invokevirtual 152, 3) := by decide +kernel
theorem dX12_allLines_103 : decode cX12_allLines 103 = .ok (.goto (-101), 3) := by decide +kernel
theorem dX12_allLines_106 : decode cX12_allLines 106 = .ok (.iload_n 2, 1) := by decide +kernel
theorem dX12_allLines_107 : decode cX12_allLines 107 = .ok (.ireturn, 1) := by decide +kernel
theorem dX12_readText_0 : decode cX12_readText 0 = .ok (.iconst 0, 1) := by decide +kernel
theorem dX12_readText_1 : decode cX12_readText 1 = .ok (.istore_n 2, 1) := by decide +kernel
theorem dX12_readText_2 : decode cX12_readText 2 = .ok (.iload_n 2, 1) := by decide +kernel
theorem dX12_readText_3 : decode cX12_readText 3 = .ok (.bipush 81, 2) := by decide +kernel
theorem dX12_readText_5 : decode cX12_readText 5 = .ok (.if_icmp .ge 16, 3) := by decide +kernel
theorem dX12_readText_8 : decode cX12_readText 8 = .ok (.aload_n 0, 1) := by decide +kernel
theorem dX12_readText_9 : decode cX12_readText 9 = .ok (.getfield 35, 3) := by decide +kernel
theorem dX12_readText_12 : decode cX12_readText 12 = .ok (.iload_n 2, 1) := by decide +kernel
theorem dX12_readText_13 : decode cX12_readText 13 = .ok (.iconst 0, 1) := by decide +kernel
theorem dX12_readText_14 : decode cX12_readText 14 = .ok (.iastore, 1) := by decide +kernel
theorem dX12_readText_15 : decode cX12_readText 15 = .ok (.iinc 2 1, 3) := by decide +kernel
theorem dX12_readText_18 : decode cX12_readText 18 = .ok (.goto (-16), 3) := by decide +kernel
theorem dX12_readText_21 : decode cX12_readText 21 = .ok (.aload_n 0, 1) := by decide +kernel
theorem dX12_readText_22 : decode cX12_readText 22 = .ok (.getfield 35, 3) := by decide +kernel
theorem dX12_readText_25 : decode cX12_readText 25 = .ok (.iconst 0, 1) := by decide +kernel
theorem dX12_readText_26 : decode cX12_readText 26 = .ok (.iload_n 1, 1) := by decide +kernel
theorem dX12_readText_27 : decode cX12_readText 27 = .ok (.ifCond .ne 7, 3) := by decide +kernel
theorem dX12_readText_30 : decode cX12_readText 30 = .ok (.iconst 2, 1) := by decide +kernel
theorem dX12_readText_31 : decode cX12_readText 31 = .ok (.goto 13, 3) := by decide +kernel
theorem dX12_readText_34 : decode cX12_readText 34 = .ok (.iload_n 1, 1) := by decide +kernel
theorem dX12_readText_35 : decode cX12_readText 35 = .ok (.iconst 2, 1) := by decide +kernel
theorem dX12_readText_36 : decode cX12_readText 36 = .ok (.if_icmp .ne 7, 3) := by decide +kernel
theorem dX12_readText_39 : decode cX12_readText 39 = .ok (.iconst 1, 1) := by decide +kernel
theorem dX12_readText_40 : decode cX12_readText 40 = .ok (.goto 4, 3) := by decide +kernel
theorem dX12_readText_43 : decode cX12_readText 43 = .ok (.iconst 0, 1) := by decide +kernel
theorem dX12_readText_44 : decode cX12_readText 44 = .ok (.iastore, 1) := by decide +kernel
theorem dX12_readText_45 : decode cX12_readText 45 = .ok (.aload_n 0, 1) := by decide +kernel
theorem dX12_readText_46 : decode cX12_readText 46 = .ok (.iconst 0, 1) := by decide +kernel
theorem dX12_readText_47 : decode cX12_readText 47 = .ok (.putfield 108, 3) := by decide +kernel
theorem dX12_readText_50 : decode cX12_readText 50 = .ok (.aload_n 0, 1) := by decide +kernel
theorem dX12_readText_51 : decode cX12_readText 51 = .ok (.iconst 0, 1) := by decide +kernel
theorem dX12_readText_52 : decode cX12_readText 52 = .ok (.putfield 134, 3) := by decide +kernel
theorem dX12_readText_55 : decode cX12_readText 55 = .ok (.aload_n 0, 1) := by decide +kernel
theorem dX12_readText_56 : decode cX12_readText 56 = .ok (.invokevirtual 152, 3) := by decide +kernel
theorem dX12_readText_59 : decode cX12_readText 59 = .ok (.aload_n 0, 1) := by decide +kernel
theorem dX12_readText_60 : decode cX12_readText 60 = .ok (.iload_n 1, 1) := by decide +kernel
theorem dX12_readText_61 : decode cX12_readText 61 = .ok (.invokevirtual 206, 3) := by decide +kernel
theorem dX12_readText_64 : decode cX12_readText 64 = .ok (.istore_n 2, 1) := by decide +kernel
theorem dX12_readText_65 : decode cX12_readText 65 = .ok (.aload_n 0, 1) := by decide +kernel
theorem dX12_readText_66 : decode cX12_readText 66 = .ok (.getfield 17, 3) := by decide +kernel
theorem dX12_readText_69 : decode cX12_readText 69 = .ok (.iconst 0, 1) := by decide +kernel
theorem dX12_readText_70 : decode cX12_readText 70 = .ok (.iload_n 2, 1) := by decide +kernel
theorem dX12_readText_71 : decode cX12_readText 71 = .ok (.ifCond .eq 10, 3) := by decide +kernel
theorem dX12_readText_74 : decode cX12_readText 74 = .ok (.aload_n 0, 1) := by decide +kernel
theorem dX12_readText_75 : decode cX12_readText 75 = .ok (.getfield 134, 3) := by decide +kernel
theorem dX12_readText_78 : decode cX12_readText 78 = .ok (.goto 4, 3) := by decide +kernel
theorem dX12_readText_81 : decode cX12_readText 81 = .ok (.iconst 1, 1) := by decide +kernel
theorem dX12_readText_82 : decode cX12_readText 82 = .ok (.iastore, 1) := by decide +kernel
theorem dX12_readText_83 : decode cX12_readText 83 = .ok (.aload_n 0, 1) := by decide +kernel
theorem dX12_readText_84 : decode cX12_readText 84 = .ok (.getfield 20, 3) := by decide +kernel
theorem dX12_readText_87 : decode cX12_readText 87 = .ok (.iconst 0, 1) := by decide +kernel
theorem dX12_readText_88 : decode cX12_readText 88 = .ok (.iload_n 2, 1) := by decide +kernel
theorem dX12_readText_89 : decode cX12_readText 89 = .ok (.ifCond .ne 10, 3) := by decide +kernel
theorem dX12_readText_92 : decode cX12_readText 92 = .ok (.aload_n 0, 1) := by decide +kernel
theorem dX12_readText_93 : decode cX12_readText 93 = .ok (.getfield 131, 3) := by decide +kernel
theorem dX12_readText_96 : decode cX12_readText 96 = .ok (.goto 18, 3) := by decide +kernel
theorem dX12_readText_99 : decode cX12_readText 99 = .ok (.aload_n 0, 1) := by decide +kernel
theorem dX12_readText_100 : decode cX12_readText 100 = .ok (.getfield 134, 3) := by decide +kernel
theorem dX12_readText_103 : decode cX12_readText 103 = .ok (.ifCond .le 10, 3) := by decide +kernel
theorem dX12_readText_106 : decode cX12_readText 106 = .ok (.aload_n 0, 1) := by decide +kernel
theorem dX12_readText_107 : decode cX12_readText 107 = .ok (.getfield 137, 3) := by decide +kernel
theorem dX12_readText_110 : decode cX12_readText 110 = .ok (.goto 4, 3) := by decide +kernel
theorem dX12_readText_113 : decode cX12_readText 113 = .ok (.iconst (-1), 1) := by decide +kernel
theorem dX12_readText_114 : decode cX12_readText 114 = .ok (.iastore, 1) := by decide +kernel
theorem dX12_readText_115 : decode cX12_readText 115 = .ok (.aload_n 0, 1) := by decide +kernel
theorem dX12_readText_116 : decode cX12_readText 116 = .ok (.getfield 17, 3) := by decide +kernel
theorem dX12_readText_119 : decode cX12_readText 119 = .ok (.iconst 0, 1) := by decide +kernel
theorem dX12_readText_120 : decode cX12_readText 120 = .ok (.iaload, 1) := by decide +kernel
theorem dX12_readText_121 : decode cX12_readText 121 = .ok (.ifCond .ne 7, 3) := by decide +kernel
theorem dX12_readText_124 : decode cX12_readText 124 = .ok (.iconst 1, 1) := by decide +kernel
theorem dX12_readText_125 : decode cX12_readText 125 = .ok (.goto 4, 3) := by decide +kernel
theorem dX12_readText_128 : decode cX12_readText 128 = .ok (.iconst 0, 1) := by decide +kernel
theorem dX12_readText_129 : decode cX12_readText 129 = .ok (.ireturn, 1) := by decide +kernel
theorem dX12_store_0 : decode cX12_store 0 = .ok (.iconst 0, 1) := by decide +kernel
theorem dX12_store_1 : decode cX12_store 1 = .ok (.istore 4, 2) := by decide +kernel
theorem dX12_store_3 : decode cX12_store 3 = .ok (.iload 4, 2) := by decide +kernel
theorem dX12_store_5 : decode cX12_store 5 = .ok (.iload_n 2, 1) := by decide +kernel
theorem dX12_store_6 : decode cX12_store 6 = .ok (.if_icmp .ge 24, 3) := by decide +kernel
theorem dX12_store_9 : decode cX12_store 9 = .ok (.aload_n 1, 1) := by decide +kernel
theorem dX12_store_10 : decode cX12_store 10 = .ok (.iload_n 2, 1) := by decide +kernel
theorem dX12_store_11 : decode cX12_store 11 = .ok (.iload_n 3, 1) := by decide +kernel
theorem dX12_store_12 : decode cX12_store 12 = .ok (.imul, 1) := by decide +kernel
theorem dX12_store_13 : decode cX12_store 13 = .ok (.iload 4, 2) := by decide +kernel
theorem dX12_store_15 : decode cX12_store 15 = .ok (.iadd, 1) := by decide +kernel
theorem dX12_store_16 : decode cX12_store 16 = .ok (.aload_n 0, 1) := by decide +kernel
theorem dX12_store_17 : decode cX12_store 17 = .ok (.getfield 35, 3) := by decide +kernel
theorem dX12_store_20 : decode cX12_store 20 = .ok (.iload 4, 2) := by decide +kernel
theorem dX12_store_22 : decode cX12_store 22 = .ok (.iaload, 1) := by decide +kernel
theorem dX12_store_23 : decode cX12_store 23 = .ok (.iastore, 1) := by decide +kernel
theorem dX12_store_24 : decode cX12_store 24 = .ok (.iinc 4 1, 3) := by decide +kernel
theorem dX12_store_27 : decode cX12_store 27 = .ok (.goto (-24), 3) := by decide +kernel
theorem dX12_store_30 : decode cX12_store 30 = .ok (.return_, 1) := by decide +kernel
theorem dX12_text_0 : decode cX12_text 0 = .ok (.aload_n 0, 1) := by decide +kernel
theorem dX12_text_1 : decode cX12_text 1 = .ok (.iconst 0, 1) := by decide +kernel
theorem dX12_text_2 : decode cX12_text 2 = .ok (.putfield 88, 3) := by decide +kernel
theorem dX12_text_5 : decode cX12_text 5 = .ok (.aload_n 0, 1) := by decide +kernel
theorem dX12_text_6 : decode cX12_text 6 = .ok (.aload_n 0, 1) := by decide +kernel
theorem dX12_text_7 : decode cX12_text 7 = .ok (.getfield 13, 3) := by decide +kernel
theorem dX12_text_10 : decode cX12_text 10 = .ok (.iconst 0, 1) := by decide +kernel
theorem dX12_text_11 : decode cX12_text 11 = .ok (.iaload, 1) := by decide +kernel
theorem dX12_text_12 : decode cX12_text 12 = .ok (.putfield 111, 3) := by decide +kernel
theorem dX12_text_15 : decode cX12_text 15 = .ok (.aload_n 0, 1) := by decide +kernel
theorem dX12_text_16 : decode cX12_text 16 = .ok (.getfield 13, 3) := by decide +kernel
theorem dX12_text_19 : decode cX12_text 19 = .ok (.iconst 0, 1) := by decide +kernel
theorem dX12_text_20 : decode cX12_text 20 = .ok (.iconst 0, 1) := by decide +kernel
theorem dX12_text_21 : decode cX12_text 21 = .ok (.iastore, 1) := by decide +kernel
theorem dX12_text_22 : decode cX12_text 22 = .ok (.aload_n 0, 1) := by decide +kernel
theorem dX12_text_23 : decode cX12_text 23 = .ok (.getfield 17, 3) := by decide +kernel
theorem dX12_text_26 : decode cX12_text 26 = .ok (.iconst 0, 1) := by decide +kernel
theorem dX12_text_27 : decode cX12_text 27 = .ok (.iconst 0, 1) := by decide +kernel
theorem dX12_text_28 : decode cX12_text 28 = .ok (.iastore, 1) := by decide +kernel
theorem dX12_text_29 : decode cX12_text 29 = .ok (.aload_n 0, 1) := by decide +kernel
theorem dX12_text_30 : decode cX12_text 30 = .ok (.getfield 20, 3) := by decide +kernel
theorem dX12_text_33 : decode cX12_text 33 = .ok (.iconst 0, 1) := by decide +kernel
theorem dX12_text_34 : decode cX12_text 34 = .ok (.iconst (-1), 1) := by decide +kernel
theorem dX12_text_35 : decode cX12_text 35 = .ok (.iastore, 1) := by decide +kernel
theorem dX12_text_36 : decode cX12_text 36 = .ok (.iload_n 1, 1) := by decide +kernel
theorem dX12_text_37 : decode cX12_text 37 = .ok (.iconst 0, 1) := by decide +kernel
theorem dX12_text_38 : decode cX12_text 38 = .ok (.iconst 2, 1) := by decide +kernel
theorem dX12_text_39 : decode cX12_text 39 = .ok (.invokestatic 100, 3) := by decide +kernel
theorem dX12_text_42 : decode cX12_text 42 = .ok (.ifCond .eq 30, 3) := by decide +kernel
theorem dX12_text_45 : decode cX12_text 45 = .ok (.iload_n 2, 1) := by decide +kernel
theorem dX12_text_46 : decode cX12_text 46 = .ok (.iconst (-1), 1) := by decide +kernel
theorem dX12_text_47 : decode cX12_text 47 = .ok (.if_icmp .ne 16, 3) := by decide +kernel
theorem dX12_text_50 : decode cX12_text 50 = .ok (.aload_n 0, 1) := by decide +kernel
theorem dX12_text_51 : decode cX12_text 51 = .ok (.getfield 23, 3) := by decide +kernel
theorem dX12_text_54 : decode cX12_text 54 = .ok (.iload_n 1, 1) := by decide +kernel
theorem dX12_text_55 : decode cX12_text 55 = .ok (.iaload, 1) := by decide +kernel
theorem dX12_text_56 : decode cX12_text 56 = .ok (.iconst 2, 1) := by decide +kernel
theorem dX12_text_57 : decode cX12_text 57 = .ok (.if_icmp .ne 18, 3) := by decide +kernel
theorem dX12_text_60 : decode cX12_text 60 = .ok (.goto 12, 3) := by decide +kernel
theorem dX12_text_63 : decode cX12_text 63 = .ok (.aload_n 0, 1) := by decide +kernel
theorem dX12_text_64 : decode cX12_text 64 = .ok (.iload_n 1, 1) := by decide +kernel
theorem dX12_text_65 : decode cX12_text 65 = .ok (.iload_n 2, 1) := by decide +kernel
theorem dX12_text_66 : decode cX12_text 66 = .ok (.invokevirtual 209, 3) := by decide +kernel
theorem dX12_text_69 : decode cX12_text 69 = .ok (.ifCond .ne 6, 3) := by decide +kernel
theorem dX12_text_72 : decode cX12_text 72 = .ok (.bipush (-2), 2) := by decide +kernel
theorem dX12_text_74 : decode cX12_text 74 = .ok (.ireturn, 1) := by decide +kernel
theorem dX12_text_75 : decode cX12_text 75 = .ok (.aload_n 0, 1) := by decide +kernel
theorem dX12_text_76 : decode cX12_text 76 = .ok (.iload_n 1, 1) := by decide +kernel
theorem dX12_text_77 : decode cX12_text 77 = .ok (.invokevirtual 212, 3) := by decide +kernel
theorem dX12_text_80 : decode cX12_text 80 = .ok (.ifCond .ne 5, 3) := by decide +kernel
theorem dX12_text_83 : decode cX12_text 83 = .ok (.iconst (-1), 1) := by decide +kernel
theorem dX12_text_84 : decode cX12_text 84 = .ok (.ireturn, 1) := by decide +kernel
theorem dX12_text_85 : decode cX12_text 85 = .ok (.iload_n 2, 1) := by decide +kernel
theorem dX12_text_86 : decode cX12_text 86 = .ok (.iconst (-1), 1) := by decide +kernel
theorem dX12_text_87 : decode cX12_text 87 = .ok (.if_icmp .ne 12, 3) := by decide +kernel
theorem dX12_text_90 : decode cX12_text 90 = .ok (.aload_n 0, 1) := by decide +kernel
theorem dX12_text_91 : decode cX12_text 91 = .ok (.getfield 23, 3) := by decide +kernel
theorem dX12_text_94 : decode cX12_text 94 = .ok (.iload_n 1, 1) := by decide +kernel
theorem dX12_text_95 : decode cX12_text 95 = .ok (.iaload, 1) := by decide +kernel
theorem dX12_text_96 : decode cX12_text 96 = .ok (.goto 4, 3) := by decide +kernel
theorem dX12_text_99 : decode cX12_text 99 = .ok (.iload_n 2, 1) := by decide +kernel
theorem dX12_text_100 : decode cX12_text 100 = .ok (.istore_n 3, 1) := by decide +kernel
theorem dX12_text_101 : decode cX12_text 101 = .ok (.aload_n 0, 1) := by decide +kernel
theorem dX12_text_102 : decode cX12_text 102 = .ok (.getfield 23, 3) := by decide +kernel
theorem dX12_text_105 : decode cX12_text 105 = .ok (.iload_n 1, 1) := by decide +kernel
theorem dX12_text_106 : decode cX12_text 106 = .ok (.dup2, 1) := by decide +kernel
theorem dX12_text_107 : decode cX12_text 107 = .ok (.iaload, 1) := by decide +kernel
theorem dX12_text_108 : decode cX12_text 108 = .ok (.iload_n 2, 1) := by decide +kernel
theorem dX12_text_109 : decode cX12_text 109 = .ok (.iconst (-1), 1) := by decide +kernel
theorem dX12_text_110 : decode cX12_text 110 = .ok (.if_icmp .ne 7, 3) := by decide +kernel
theorem dX12_text_113 : decode cX12_text 113 = .ok (.iconst 1, 1) := by decide +kernel
theorem dX12_text_114 : decode cX12_text 114 = .ok (.goto 4, 3) := by decide +kernel
theorem dX12_text_117 : decode cX12_text 117 = .ok (.iconst 0, 1) := by decide +kernel
theorem dX12_text_118 : decode cX12_text 118 = .ok (.iadd, 1) := by decide +kernel
theorem dX12_text_119 : decode cX12_text 119 = .ok (.iastore, 1) := by decide +kernel
theorem dX12_text_120 : decode cX12_text 120 = .ok (.iload_n 1, 1) := by decide +kernel
theorem dX12_text_121 : decode cX12_text 121 = .ok (.ifCond .ne 17, 3) := by decide +kernel
theorem dX12_text_124 : decode cX12_text 124 = .ok (.aload_n 0, 1) := by decide +kernel
theorem dX12_text_125 : decode cX12_text 125 = .ok (.aload_n 0, 1) := by decide +kernel
theorem dX12_text_126 : decode cX12_text 126 = .ok (.getfield 26, 3) := by decide +kernel
theorem dX12_text_129 : decode cX12_text 129 = .ok (.bipush 18, 2) := by decide +kernel
theorem dX12_text_131 : decode cX12_text 131 = .ok (.iload_n 3, 1) := by decide +kernel
theorem dX12_text_132 : decode cX12_text 132 = .ok (.invokevirtual 215, 3) := by decide +kernel
theorem dX12_text_135 : decode cX12_text 135 = .ok (.goto 33, 3) := by decide +kernel
theorem dX12_text_138 : decode cX12_text 138 = .ok (.iload_n 1, 1) := by decide +kernel
theorem dX12_text_139 : decode cX12_text 139 = .ok (.iconst 1, 1) := by decide +kernel
theorem dX12_text_140 : decode cX12_text 140 = .ok (.if_icmp .ne 17, 3) := by decide +kernel
theorem dX12_text_143 : decode cX12_text 143 = .ok (.aload_n 0, 1) := by decide +kernel
theorem dX12_text_144 : decode cX12_text 144 = .ok (.aload_n 0, 1) := by decide +kernel
theorem dX12_text_145 : decode cX12_text 145 = .ok (.getfield 29, 3) := by decide +kernel
theorem dX12_text_148 : decode cX12_text 148 = .ok (.bipush 81, 2) := by decide +kernel
theorem dX12_text_150 : decode cX12_text 150 = .ok (.iload_n 3, 1) := by decide +kernel
theorem dX12_text_151 : decode cX12_text 151 = .ok (.invokevirtual 215, 3) := by decide +kernel
theorem dX12_text_154 : decode cX12_text 154 = .ok (.goto 14, 3) := by decide +kernel
theorem dX12_text_157 : decode cX12_text 157 = .ok (.aload_n 0, 1) := by decide +kernel
theorem dX12_text_158 : decode cX12_text 158 = .ok (.aload_n 0, 1) := by decide +kernel
theorem dX12_text_159 : decode cX12_text 159 = .ok (.getfield 32, 3) := by decide +kernel
theorem dX12_text_162 : decode cX12_text 162 = .ok (.bipush 26, 2) := by decide +kernel
theorem dX12_text_164 : decode cX12_text 164 = .ok (.iload_n 3, 1) := by decide +kernel
theorem dX12_text_165 : decode cX12_text 165 = .ok (.invokevirtual 215, 3) := by decide +kernel
theorem dX12_text_168 : decode cX12_text 168 = .ok (.iload_n 3, 1) := by decide +kernel
theorem dX12_text_169 : decode cX12_text 169 = .ok (.ireturn, 1) := by decide +kernel
theorem dX12_fault_0 : decode cX12_fault 0 = .ok (.aload_n 0, 1) := by decide +kernel
theorem dX12_fault_1 : decode cX12_fault 1 = .ok (.iconst 0, 1) := by decide +kernel
theorem dX12_fault_2 : decode cX12_fault 2 = .ok (.putfield 88, 3) := by decide +kernel
theorem dX12_fault_5 : decode cX12_fault 5 = .ok (.iload_n 1, 1) := by decide +kernel
theorem dX12_fault_6 : decode cX12_fault 6 = .ok (.ifCond .ne 12, 3) := by decide +kernel
theorem dX12_fault_9 : decode cX12_fault 9 = .ok (.aload_n 0, 1) := by decide +kernel
theorem dX12_fault_10 : decode cX12_fault 10 = .ok (.getfield 17, 3) := by decide +kernel
theorem dX12_fault_13 : decode cX12_fault 13 = .ok (.iconst 0, 1) := by decide +kernel
theorem dX12_fault_14 : decode cX12_fault 14 = .ok (.iaload, 1) := by decide +kernel
theorem dX12_fault_15 : decode cX12_fault 15 = .ok (.goto 18, 3) := by decide +kernel
theorem dX12_fault_18 : decode cX12_fault 18 = .ok (.iload_n 1, 1) := by decide +kernel
theorem dX12_fault_19 : decode cX12_fault 19 = .ok (.iconst 1, 1) := by decide +kernel
theorem dX12_fault_20 : decode cX12_fault 20 = .ok (.if_icmp .ne 12, 3) := by decide +kernel
theorem dX12_fault_23 : decode cX12_fault 23 = .ok (.aload_n 0, 1) := by decide +kernel
theorem dX12_fault_24 : decode cX12_fault 24 = .ok (.getfield 20, 3) := by decide +kernel
theorem dX12_fault_27 : decode cX12_fault 27 = .ok (.iconst 0, 1) := by decide +kernel
theorem dX12_fault_28 : decode cX12_fault 28 = .ok (.iaload, 1) := by decide +kernel
theorem dX12_fault_29 : decode cX12_fault 29 = .ok (.goto 4, 3) := by decide +kernel
theorem dX12_fault_32 : decode cX12_fault 32 = .ok (.iconst (-1), 1) := by decide +kernel
theorem dX12_fault_33 : decode cX12_fault 33 = .ok (.ireturn, 1) := by decide +kernel
theorem dX12_of_0 : decode cX12_of 0 = .ok (.aload_n 0, 1) := by decide +kernel
theorem dX12_of_1 : decode cX12_of 1 = .ok (.getfield 26, 3) := by decide +kernel
theorem dX12_of_4 : decode cX12_of 4 = .ok (.bipush 18, 2) := by decide +kernel
theorem dX12_of_6 : decode cX12_of 6 = .ok (.aload_n 0, 1) := by decide +kernel
theorem dX12_of_7 : decode cX12_of 7 = .ok (.getfield 219, 3) := by decide +kernel
theorem dX12_of_10 : decode cX12_of 10 = .ok (.imul, 1) := by decide +kernel
theorem dX12_of_11 : decode cX12_of 11 = .ok (.iload_n 1, 1) := by decide +kernel
theorem dX12_of_12 : decode cX12_of 12 = .ok (.iadd, 1) := by decide +kernel
theorem dX12_of_13 : decode cX12_of 13 = .ok (.iaload, 1) := by decide +kernel
theorem dX12_of_14 : decode cX12_of 14 = .ok (.ireturn, 1) := by decide +kernel
theorem dX12_asTold_0 : decode cX12_asTold 0 = .ok (.aload_n 0, 1) := by decide +kernel
theorem dX12_asTold_1 : decode cX12_asTold 1 = .ok (.aload_n 0, 1) := by decide +kernel
theorem dX12_asTold_2 : decode cX12_asTold 2 = .ok (.iconst 0, 1) := by decide +kernel
theorem dX12_asTold_3 : decode cX12_asTold 3 = .ok (.invokevirtual 222, 3) := by decide +kernel
theorem dX12_asTold_6 : decode cX12_asTold 6 = .ok (.putfield 226, 3) := by decide +kernel
theorem dX12_asTold_9 : decode cX12_asTold 9 = .ok (.aload_n 0, 1) := by decide +kernel
theorem dX12_asTold_10 : decode cX12_asTold 10 = .ok (.aload_n 0, 1) := by decide +kernel
theorem dX12_asTold_11 : decode cX12_asTold 11 = .ok (.iconst 1, 1) := by decide +kernel
theorem dX12_asTold_12 : decode cX12_asTold 12 = .ok (.invokevirtual 222, 3) := by decide +kernel
theorem dX12_asTold_15 : decode cX12_asTold 15 = .ok (.putfield 229, 3) := by decide +kernel
theorem dX12_asTold_18 : decode cX12_asTold 18 = .ok (.aload_n 0, 1) := by decide +kernel
theorem dX12_asTold_19 : decode cX12_asTold 19 = .ok (.aload_n 0, 1) := by decide +kernel
theorem dX12_asTold_20 : decode cX12_asTold 20 = .ok (.iconst 2, 1) := by decide +kernel
theorem dX12_asTold_21 : decode cX12_asTold 21 = .ok (.invokevirtual 222, 3) := by decide +kernel
theorem dX12_asTold_24 : decode cX12_asTold 24 = .ok (.putfield 232, 3) := by decide +kernel
theorem dX12_asTold_27 : decode cX12_asTold 27 = .ok (.aload_n 0, 1) := by decide +kernel
theorem dX12_asTold_28 : decode cX12_asTold 28 = .ok (.iconst 1, 1) := by decide +kernel
theorem dX12_asTold_29 : decode cX12_asTold 29 = .ok (.aload_n 0, 1) := by decide +kernel
theorem dX12_asTold_30 : decode cX12_asTold 30 = .ok (.getfield 232, 3) := by decide +kernel
theorem dX12_asTold_33 : decode cX12_asTold 33 = .ok (.ishl, 1) := by decide +kernel
theorem dX12_asTold_34 : decode cX12_asTold 34 = .ok (.iconst 1, 1) := by decide +kernel
theorem dX12_asTold_35 : decode cX12_asTold 35 = .ok (.isub, 1) := by decide +kernel
theorem dX12_asTold_36 : decode cX12_asTold 36 = .ok (.putfield 235, 3) := by decide +kernel
theorem dX12_asTold_39 : decode cX12_asTold 39 = .ok (.iconst 0, 1) := by decide +kernel
theorem dX12_asTold_40 : decode cX12_asTold 40 = .ok (.istore_n 1, 1) := by decide +kernel
theorem dX12_asTold_41 : decode cX12_asTold 41 = .ok (.iload_n 1, 1) := by decide +kernel
theorem dX12_asTold_42 : decode cX12_asTold 42 = .ok (.iconst 5, 1) := by decide +kernel
theorem dX12_asTold_43 : decode cX12_asTold 43 = .ok (.if_icmp .ge 50, 3) := by decide +kernel
theorem dX12_asTold_46 : decode cX12_asTold 46 = .ok (.aload_n 0, 1) := by decide +kernel
theorem dX12_asTold_47 : decode cX12_asTold 47 = .ok (.getfield 41, 3) := by decide +kernel
theorem dX12_asTold_50 : decode cX12_asTold 50 = .ok (.iload_n 1, 1) := by decide +kernel
theorem dX12_asTold_51 : decode cX12_asTold 51 = .ok (.aload_n 0, 1) := by decide +kernel
theorem dX12_asTold_52 : decode cX12_asTold 52 = .ok (.iconst 3, 1) := by decide +kernel
theorem dX12_asTold_53 : decode cX12_asTold 53 = .ok (.iload_n 1, 1) := by decide +kernel
theorem dX12_asTold_54 : decode cX12_asTold 54 = .ok (.iadd, 1) := by decide +kernel
theorem dX12_asTold_55 : decode cX12_asTold 55 = .ok (.invokevirtual 222, 3) := by decide +kernel
theorem dX12_asTold_58 : decode cX12_asTold 58 = .ok (.iastore, 1) := by decide +kernel
theorem dX12_asTold_59 : decode cX12_asTold 59 = .ok (.aload_n 0, 1) := by decide +kernel
theorem dX12_asTold_60 : decode cX12_asTold 60 = .ok (.getfield 44, 3) := by decide +kernel
theorem dX12_asTold_63 : decode cX12_asTold 63 = .ok (.iload_n 1, 1) := by decide +kernel
theorem dX12_asTold_64 : decode cX12_asTold 64 = .ok (.aload_n 0, 1) := by decide +kernel
theorem dX12_asTold_65 : decode cX12_asTold 65 = .ok (.bipush 8, 2) := by decide +kernel
theorem dX12_asTold_67 : decode cX12_asTold 67 = .ok (.iload_n 1, 1) := by decide +kernel
theorem dX12_asTold_68 : decode cX12_asTold 68 = .ok (.iadd, 1) := by decide +kernel
theorem dX12_asTold_69 : decode cX12_asTold 69 = .ok (.invokevirtual 222, 3) := by decide +kernel
theorem dX12_asTold_72 : decode cX12_asTold 72 = .ok (.iastore, 1) := by decide +kernel
theorem dX12_asTold_73 : decode cX12_asTold 73 = .ok (.aload_n 0, 1) := by decide +kernel
theorem dX12_asTold_74 : decode cX12_asTold 74 = .ok (.getfield 47, 3) := by decide +kernel
theorem dX12_asTold_77 : decode cX12_asTold 77 = .ok (.iload_n 1, 1) := by decide +kernel
theorem dX12_asTold_78 : decode cX12_asTold 78 = .ok (.aload_n 0, 1) := by decide +kernel
theorem dX12_asTold_79 : decode cX12_asTold 79 = .ok (.bipush 13, 2) := by decide +kernel
theorem dX12_asTold_81 : decode cX12_asTold 81 = .ok (.iload_n 1, 1) := by decide +kernel
theorem dX12_asTold_82 : decode cX12_asTold 82 = .ok (.iadd, 1) := by decide +kernel
theorem dX12_asTold_83 : decode cX12_asTold 83 = .ok (.invokevirtual 222, 3) := by decide +kernel
theorem dX12_asTold_86 : decode cX12_asTold 86 = .ok (.iastore, 1) := by decide +kernel
theorem dX12_asTold_87 : decode cX12_asTold 87 = .ok (.iinc 1 1, 3) := by decide +kernel
theorem dX12_asTold_90 : decode cX12_asTold 90 = .ok (.goto (-49), 3) := by decide +kernel
theorem dX12_asTold_93 : decode cX12_asTold 93 = .ok (.return_, 1) := by decide +kernel
theorem dX12_hand_0 : decode cX12_hand 0 = .ok (.aload_n 0, 1) := by decide +kernel
theorem dX12_hand_1 : decode cX12_hand 1 = .ok (.iconst 0, 1) := by decide +kernel
theorem dX12_hand_2 : decode cX12_hand 2 = .ok (.iload_n 1, 1) := by decide +kernel
theorem dX12_hand_3 : decode cX12_hand 3 = .ok (.invokevirtual 209, 3) := by decide +kernel
theorem dX12_hand_6 : decode cX12_hand 6 = .ok (.ifCond .ne 5, 3) := by decide +kernel
theorem dX12_hand_9 : decode cX12_hand 9 = .ok (.iconst 0, 1) := by decide +kernel
theorem dX12_hand_10 : decode cX12_hand 10 = .ok (.ireturn, 1) := by decide +kernel
theorem dX12_hand_11 : decode cX12_hand 11 = .ok (.aload_n 0, 1) := by decide +kernel
theorem dX12_hand_12 : decode cX12_hand 12 = .ok (.iload_n 1, 1) := by decide +kernel
theorem dX12_hand_13 : decode cX12_hand 13 = .ok (.putfield 219, 3) := by decide +kernel
theorem dX12_hand_16 : decode cX12_hand 16 = .ok (.aload_n 0, 1) := by decide +kernel
theorem dX12_hand_17 : decode cX12_hand 17 = .ok (.invokevirtual 238, 3) := by decide +kernel
theorem dX12_hand_20 : decode cX12_hand 20 = .ok (.iconst 1, 1) := by decide +kernel
theorem dX12_hand_21 : decode cX12_hand 21 = .ok (.ireturn, 1) := by decide +kernel
theorem dX12_isPlate_0 : decode cX12_isPlate 0 = .ok (.iload_n 1, 1) := by decide +kernel
theorem dX12_isPlate_1 : decode cX12_isPlate 1 = .ok (.iconst 0, 1) := by decide +kernel
theorem dX12_isPlate_2 : decode cX12_isPlate 2 = .ok (.aload_n 0, 1) := by decide +kernel
theorem dX12_isPlate_3 : decode cX12_isPlate 3 = .ok (.getfield 232, 3) := by decide +kernel
theorem dX12_isPlate_6 : decode cX12_isPlate 6 = .ok (.iconst 1, 1) := by decide +kernel
theorem dX12_isPlate_7 : decode cX12_isPlate 7 = .ok (.isub, 1) := by decide +kernel
theorem dX12_isPlate_8 : decode cX12_isPlate 8 = .ok (.invokestatic 100, 3) := by decide +kernel
theorem dX12_isPlate_11 : decode cX12_isPlate 11 = .ok (.ireturn, 1) := by decide +kernel
theorem dX12_way_0 : decode cX12_way 0 = .ok (.iload_n 1, 1) := by decide +kernel
theorem dX12_way_1 : decode cX12_way 1 = .ok (.iload_n 2, 1) := by decide +kernel
theorem dX12_way_2 : decode cX12_way 2 = .ok (.if_icmp .ge 9, 3) := by decide +kernel
theorem dX12_way_5 : decode cX12_way 5 = .ok (.iload_n 2, 1) := by decide +kernel
theorem dX12_way_6 : decode cX12_way 6 = .ok (.iload_n 1, 1) := by decide +kernel
theorem dX12_way_7 : decode cX12_way 7 = .ok (.isub, 1) := by decide +kernel
theorem dX12_way_8 : decode cX12_way 8 = .ok (.goto 6, 3) := by decide +kernel
theorem dX12_way_11 : decode cX12_way 11 = .ok (.iload_n 1, 1) := by decide +kernel
theorem dX12_way_12 : decode cX12_way 12 = .ok (.iload_n 2, 1) := by decide +kernel
theorem dX12_way_13 : decode cX12_way 13 = .ok (.isub, 1) := by decide +kernel
theorem dX12_way_14 : decode cX12_way 14 = .ok (.istore_n 3, 1) := by decide +kernel
theorem dX12_way_15 : decode cX12_way 15 = .ok (.iload_n 3, 1) := by decide +kernel
theorem dX12_way_16 : decode cX12_way 16 = .ok (.aload_n 0, 1) := by decide +kernel
theorem dX12_way_17 : decode cX12_way 17 = .ok (.getfield 226, 3) := by decide +kernel
theorem dX12_way_20 : decode cX12_way 20 = .ok (.iadd, 1) := by decide +kernel
theorem dX12_way_21 : decode cX12_way 21 = .ok (.iconst 1, 1) := by decide +kernel
theorem dX12_way_22 : decode cX12_way 22 = .ok (.isub, 1) := by decide +kernel
theorem dX12_way_23 : decode cX12_way 23 = .ok (.aload_n 0, 1) := by decide +kernel
theorem dX12_way_24 : decode cX12_way 24 = .ok (.getfield 226, 3) := by decide +kernel
theorem dX12_way_27 : decode cX12_way 27 = .ok (.idiv, 1) := by decide +kernel
theorem dX12_way_28 : decode cX12_way 28 = .ok (.ireturn, 1) := by decide +kernel
theorem dX12_stage_0 : decode cX12_stage 0 = .ok (.aload_n 0, 1) := by decide +kernel
theorem dX12_stage_1 : decode cX12_stage 1 = .ok (.iconst 0, 1) := by decide +kernel
theorem dX12_stage_2 : decode cX12_stage 2 = .ok (.putfield 88, 3) := by decide +kernel
theorem dX12_stage_5 : decode cX12_stage 5 = .ok (.aload_n 0, 1) := by decide +kernel
theorem dX12_stage_6 : decode cX12_stage 6 = .ok (.iload_n 1, 1) := by decide +kernel
theorem dX12_stage_7 : decode cX12_stage 7 = .ok (.invokevirtual 241, 3) := by decide +kernel
theorem dX12_stage_10 : decode cX12_stage 10 = .ok (.ifCond .ne 5, 3) := by decide +kernel
theorem dX12_stage_13 : decode cX12_stage 13 = .ok (.iconst (-1), 1) := by decide +kernel
theorem dX12_stage_14 : decode cX12_stage 14 = .ok (.ireturn, 1) := by decide +kernel
theorem dX12_stage_15 : decode cX12_stage 15 = .ok (.iload_n 2, 1) := by decide +kernel
theorem dX12_stage_16 : decode cX12_stage 16 = .ok (.bipush 10, 2) := by decide +kernel
theorem dX12_stage_18 : decode cX12_stage 18 = .ok (.irem, 1) := by decide +kernel
theorem dX12_stage_19 : decode cX12_stage 19 = .ok (.istore_n 3, 1) := by decide +kernel
theorem dX12_stage_20 : decode cX12_stage 20 = .ok (.iload_n 2, 1) := by decide +kernel
theorem dX12_stage_21 : decode cX12_stage 21 = .ok (.bipush 10, 2) := by decide +kernel
theorem dX12_stage_23 : decode cX12_stage 23 = .ok (.if_icmp .ge 22, 3) := by decide +kernel
theorem dX12_stage_26 : decode cX12_stage 26 = .ok (.iload_n 2, 1) := by decide +kernel
theorem dX12_stage_27 : decode cX12_stage 27 = .ok (.iconst 0, 1) := by decide +kernel
theorem dX12_stage_28 : decode cX12_stage 28 = .ok (.iconst 2, 1) := by decide +kernel
theorem dX12_stage_29 : decode cX12_stage 29 = .ok (.invokestatic 100, 3) := by decide +kernel
theorem dX12_stage_32 : decode cX12_stage 32 = .ok (.ifCond .eq 11, 3) := by decide +kernel
theorem dX12_stage_35 : decode cX12_stage 35 = .ok (.aload_n 0, 1) := by decide +kernel
theorem dX12_stage_36 : decode cX12_stage 36 = .ok (.iload_n 2, 1) := by decide +kernel
theorem dX12_stage_37 : decode cX12_stage 37 = .ok (.invokevirtual 222, 3) := by decide +kernel
theorem dX12_stage_40 : decode cX12_stage 40 = .ok (.goto 4, 3) := by decide +kernel
theorem dX12_stage_43 : decode cX12_stage 43 = .ok (.iconst (-1), 1) := by decide +kernel
theorem dX12_stage_44 : decode cX12_stage 44 = .ok (.ireturn, 1) := by decide +kernel
theorem dX12_stage_45 : decode cX12_stage 45 = .ok (.iload_n 2, 1) := by decide +kernel
theorem dX12_stage_46 : decode cX12_stage 46 = .ok (.bipush 40, 2) := by decide +kernel
theorem dX12_stage_48 : decode cX12_stage 48 = .ok (.if_icmp .ge 30, 3) := by decide +kernel
theorem dX12_stage_51 : decode cX12_stage 51 = .ok (.aload_n 0, 1) := by decide +kernel
theorem dX12_stage_52 : decode cX12_stage 52 = .ok (.iload_n 3, 1) := by decide +kernel
theorem dX12_stage_53 : decode cX12_stage 53 = .ok (.invokevirtual 244, 3) := by decide +kernel
theorem dX12_stage_56 : decode cX12_stage 56 = .ok (.ifCond .eq 22, 3) := by decide +kernel
theorem dX12_stage_59 : decode cX12_stage 59 = .ok (.aload_n 0, 1) := by decide +kernel
theorem dX12_stage_60 : decode cX12_stage 60 = .ok (.iconst 3, 1) := by decide +kernel
theorem dX12_stage_61 : decode cX12_stage 61 = .ok (.iconst 5, 1) := by decide +kernel
theorem dX12_stage_62 : decode cX12_stage 62 = .ok (.iload_n 2, 1) := by decide +kernel
theorem dX12_stage_63 : decode cX12_stage 63 = .ok (.bipush 10, 2) := by decide +kernel
theorem dX12_stage_65 : decode cX12_stage 65 = .ok (.idiv, 1) := by decide +kernel
theorem dX12_stage_66 : decode cX12_stage 66 = .ok (.iconst 1, 1) := by decide +kernel
theorem dX12_stage_67 : decode cX12_stage 67 = .ok (.isub, 1) := by decide +kernel
theorem dX12_stage_68 : decode cX12_stage 68 = .ok (.imul, 1) := by decide +kernel
theorem dX12_stage_69 : decode cX12_stage 69 = .ok (.iadd, 1) := by decide +kernel
theorem dX12_stage_70 : decode cX12_stage 70 = .ok (.iload_n 3, 1) := by decide +kernel
theorem dX12_stage_71 : decode cX12_stage 71 = .ok (.iadd, 1) := by decide +kernel
theorem dX12_stage_72 : decode cX12_stage 72 = .ok (.invokevirtual 222, 3) := by decide +kernel
theorem dX12_stage_75 : decode cX12_stage 75 = .ok (.goto 4, 3) := by decide +kernel
theorem dX12_stage_78 : decode cX12_stage 78 = .ok (.iconst (-1), 1) := by decide +kernel
theorem dX12_stage_79 : decode cX12_stage 79 = .ok (.ireturn, 1) := by decide +kernel
theorem dX12_standNow_0 : decode cX12_standNow 0 = .ok (.iconst 0, 1) := by decide +kernel
theorem dX12_standNow_1 : decode cX12_standNow 1 = .ok (.istore_n 1, 1) := by decide +kernel
theorem dX12_standNow_2 : decode cX12_standNow 2 = .ok (.iconst 0, 1) := by decide +kernel
theorem dX12_standNow_3 : decode cX12_standNow 3 = .ok (.istore_n 2, 1) := by decide +kernel
theorem dX12_standNow_4 : decode cX12_standNow 4 = .ok (.iload_n 2, 1) := by decide +kernel
theorem dX12_standNow_5 : decode cX12_standNow 5 = .ok (.aload_n 0, 1) := by decide +kernel
theorem dX12_standNow_6 : decode cX12_standNow 6 = .ok (.getfield 232, 3) := by decide +kernel
theorem dX12_standNow_9 : decode cX12_standNow 9 = .ok (.if_icmp .ge 28, 3) := by decide +kernel
theorem dX12_standNow_12 : decode cX12_standNow 12 = .ok (.iload_n 1, 1) := by decide +kernel
theorem dX12_standNow_13 : decode cX12_standNow 13 = .ok (.aload_n 0, 1) := by decide +kernel
theorem dX12_standNow_14 : decode cX12_standNow 14 = .ok (.getfield 72, 3) := by decide +kernel
theorem dX12_standNow_17 : decode cX12_standNow 17 = .ok (.iload_n 2, 1) := by decide +kernel
theorem dX12_standNow_18 : decode cX12_standNow 18 = .ok (.iaload, 1) := by decide +kernel
theorem dX12_standNow_19 : decode cX12_standNow 19 = .ok (.ifCond .le 9, 3) := by decide +kernel
theorem dX12_standNow_22 : decode cX12_standNow 22 = .ok (.iconst 1, 1) := by decide +kernel
theorem dX12_standNow_23 : decode cX12_standNow 23 = .ok (.iload_n 2, 1) := by decide +kernel
theorem dX12_standNow_24 : decode cX12_standNow 24 = .ok (.ishl, 1) := by decide +kernel
theorem dX12_standNow_25 : decode cX12_standNow 25 = .ok (.goto 4, 3) := by decide +kernel
theorem dX12_standNow_28 : decode cX12_standNow 28 = .ok (.iconst 0, 1) := by decide +kernel
theorem dX12_standNow_29 : decode cX12_standNow 29 = .ok (.ior, 1) := by decide +kernel
theorem dX12_standNow_30 : decode cX12_standNow 30 = .ok (.istore_n 1, 1) := by decide +kernel
theorem dX12_standNow_31 : decode cX12_standNow 31 = .ok (.iinc 2 1, 3) := by decide +kernel
theorem dX12_standNow_34 : decode cX12_standNow 34 = .ok (.goto (-30), 3) := by decide +kernel
theorem dX12_standNow_37 : decode cX12_standNow 37 = .ok (.iload_n 1, 1) := by decide +kernel
theorem dX12_standNow_38 : decode cX12_standNow 38 = .ok (.ireturn, 1) := by decide +kernel
theorem dX12_beginShow_0 : decode cX12_beginShow 0 = .ok (.aload_n 0, 1) := by decide +kernel
theorem dX12_beginShow_1 : decode cX12_beginShow 1 = .ok (.invokevirtual 238, 3) := by decide +kernel
theorem dX12_beginShow_4 : decode cX12_beginShow 4 = .ok (.aload_n 0, 1) := by decide +kernel
theorem dX12_beginShow_5 : decode cX12_beginShow 5 = .ok (.aload_n 0, 1) := by decide +kernel
theorem dX12_beginShow_6 : decode cX12_beginShow 6 = .ok (.getfield 229, 3) := by decide +kernel
theorem dX12_beginShow_9 : decode cX12_beginShow 9 = .ok (.putfield 247, 3) := by decide +kernel
theorem dX12_beginShow_12 : decode cX12_beginShow 12 = .ok (.aload_n 0, 1) := by decide +kernel
theorem dX12_beginShow_13 : decode cX12_beginShow 13 = .ok (.iconst 0, 1) := by decide +kernel
theorem dX12_beginShow_14 : decode cX12_beginShow 14 = .ok (.putfield 250, 3) := by decide +kernel
theorem dX12_beginShow_17 : decode cX12_beginShow 17 = .ok (.aload_n 0, 1) := by decide +kernel
theorem dX12_beginShow_18 : decode cX12_beginShow 18 = .ok (.iconst 0, 1) := by decide +kernel
theorem dX12_beginShow_19 : decode cX12_beginShow 19 = .ok (.putfield 253, 3) := by decide +kernel
theorem dX12_beginShow_22 : decode cX12_beginShow 22 = .ok (.aload_n 0, 1) := by decide +kernel
theorem dX12_beginShow_23 : decode cX12_beginShow 23 = .ok (.iconst 0, 1) := by decide +kernel
theorem dX12_beginShow_24 : decode cX12_beginShow 24 = .ok (.putfield 256, 3) := by decide +kernel
theorem dX12_beginShow_27 : decode cX12_beginShow 27 = .ok (.aload_n 0, 1) := by decide +kernel
theorem dX12_beginShow_28 : decode cX12_beginShow 28 = .ok (.iconst 0, 1) := by decide +kernel
theorem dX12_beginShow_29 : decode cX12_beginShow 29 = .ok (.putfield 259, 3) := by decide +kernel
theorem dX12_beginShow_32 : decode cX12_beginShow 32 = .ok (.aload_n 0, 1) := by decide +kernel
theorem dX12_beginShow_33 : decode cX12_beginShow 33 = .ok (.iconst 0, 1) := by decide +kernel
theorem dX12_beginShow_34 : decode cX12_beginShow 34 = .ok (.putfield 262, 3) := by decide +kernel
theorem dX12_beginShow_37 : decode cX12_beginShow 37 = .ok (.aload_n 0, 1) := by decide +kernel
theorem dX12_beginShow_38 : decode cX12_beginShow 38 = .ok (.iconst 0, 1) := by decide +kernel
theorem dX12_beginShow_39 : decode cX12_beginShow 39 = .ok (.putfield 265, 3) := by decide +kernel
theorem dX12_beginShow_42 : decode cX12_beginShow 42 = .ok (.aload_n 0, 1) := by decide +kernel
theorem dX12_beginShow_43 : decode cX12_beginShow 43 = .ok (.iconst 0, 1) := by decide +kernel
theorem dX12_beginShow_44 : decode cX12_beginShow 44 = .ok (.putfield 268, 3) := by decide +kernel
theorem dX12_beginShow_47 : decode cX12_beginShow 47 = .ok (.aload_n 0, 1) := by decide +kernel
theorem dX12_beginShow_48 : decode cX12_beginShow 48 = .ok (.iconst 0, 1) := by decide +kernel
theorem dX12_beginShow_49 : decode cX12_beginShow 49 = .ok (.putfield 271, 3) := by decide +kernel
theorem dX12_beginShow_52 : decode cX12_beginShow 52 = .ok (.iconst 0, 1) := by decide +kernel
theorem dX12_beginShow_53 : decode cX12_beginShow 53 = .ok (.istore_n 1, 1) := by decide +kernel
theorem dX12_beginShow_54 : decode cX12_beginShow 54 = .ok (.iload_n 1, 1) := by decide +kernel
theorem dX12_beginShow_55 : decode cX12_beginShow 55 = .ok (.iconst 5, 1) := by decide +kernel
theorem dX12_beginShow_56 : decode cX12_beginShow 56 = .ok (.if_icmp .ge 28, 3) := by decide +kernel
theorem dX12_beginShow_59 : decode cX12_beginShow 59 = .ok (.aload_n 0, 1) := by decide +kernel
theorem dX12_beginShow_60 : decode cX12_beginShow 60 = .ok (.getfield 72, 3) := by decide +kernel
theorem dX12_beginShow_63 : decode cX12_beginShow 63 = .ok (.iload_n 1, 1) := by decide +kernel
theorem dX12_beginShow_64 : decode cX12_beginShow 64 = .ok (.aload_n 0, 1) := by decide +kernel
theorem dX12_beginShow_65 : decode cX12_beginShow 65 = .ok (.getfield 47, 3) := by decide +kernel
theorem dX12_beginShow_68 : decode cX12_beginShow 68 = .ok (.iload_n 1, 1) := by decide +kernel
theorem dX12_beginShow_69 : decode cX12_beginShow 69 = .ok (.iaload, 1) := by decide +kernel
theorem dX12_beginShow_70 : decode cX12_beginShow 70 = .ok (.iastore, 1) := by decide +kernel
theorem dX12_beginShow_71 : decode cX12_beginShow 71 = .ok (.aload_n 0, 1) := by decide +kernel
theorem dX12_beginShow_72 : decode cX12_beginShow 72 = .ok (.getfield 50, 3) := by decide +kernel
theorem dX12_beginShow_75 : decode cX12_beginShow 75 = .ok (.iload_n 1, 1) := by decide +kernel
theorem dX12_beginShow_76 : decode cX12_beginShow 76 = .ok (.iconst 0, 1) := by decide +kernel
theorem dX12_beginShow_77 : decode cX12_beginShow 77 = .ok (.iastore, 1) := by decide +kernel
theorem dX12_beginShow_78 : decode cX12_beginShow 78 = .ok (.iinc 1 1, 3) := by decide +kernel
theorem dX12_beginShow_81 : decode cX12_beginShow 81 = .ok (.goto (-27), 3) := by decide +kernel
theorem dX12_beginShow_84 : decode cX12_beginShow 84 = .ok (.aload_n 0, 1) := by decide +kernel
theorem dX12_beginShow_85 : decode cX12_beginShow 85 = .ok (.getfield 53, 3) := by decide +kernel
theorem dX12_beginShow_88 : decode cX12_beginShow 88 = .ok (.iconst 0, 1) := by decide +kernel
theorem dX12_beginShow_89 : decode cX12_beginShow 89 = .ok (.aload_n 0, 1) := by decide +kernel
theorem dX12_beginShow_90 : decode cX12_beginShow 90 = .ok (.invokevirtual 274, 3) := by decide +kernel
theorem dX12_beginShow_93 : decode cX12_beginShow 93 = .ok (.iastore, 1) := by decide +kernel
theorem dX12_beginShow_94 : decode cX12_beginShow 94 = .ok (.return_, 1) := by decide +kernel
theorem dX12_lose_0 : decode cX12_lose 0 = .ok (.aload_n 0, 1) := by decide +kernel
theorem dX12_lose_1 : decode cX12_lose 1 = .ok (.getfield 72, 3) := by decide +kernel
theorem dX12_lose_4 : decode cX12_lose 4 = .ok (.iload_n 1, 1) := by decide +kernel
theorem dX12_lose_5 : decode cX12_lose 5 = .ok (.dup2, 1) := by decide +kernel
theorem dX12_lose_6 : decode cX12_lose 6 = .ok (.iaload, 1) := by decide +kernel
theorem dX12_lose_7 : decode cX12_lose 7 = .ok (.iconst 1, 1) := by decide +kernel
theorem dX12_lose_8 : decode cX12_lose 8 = .ok (.isub, 1) := by decide +kernel
theorem dX12_lose_9 : decode cX12_lose 9 = .ok (.iastore, 1) := by decide +kernel
theorem dX12_lose_10 : decode cX12_lose 10 = .ok (.aload_n 0, 1) := by decide +kernel
theorem dX12_lose_11 : decode cX12_lose 11 = .ok (.dup, 1) := by decide +kernel
theorem dX12_lose_12 : decode cX12_lose 12 = .ok (.getfield 253, 3) := by decide +kernel
theorem dX12_lose_15 : decode cX12_lose 15 = .ok (.aload_n 0, 1) := by decide +kernel
theorem dX12_lose_16 : decode cX12_lose 16 = .ok (.getfield 72, 3) := by decide +kernel
theorem dX12_lose_19 : decode cX12_lose 19 = .ok (.iload_n 1, 1) := by decide +kernel
theorem dX12_lose_20 : decode cX12_lose 20 = .ok (.iaload, 1) := by decide +kernel
theorem dX12_lose_21 : decode cX12_lose 21 = .ok (.ifCond .ne 7, 3) := by decide +kernel
theorem dX12_lose_24 : decode cX12_lose 24 = .ok (.iconst 1, 1) := by decide +kernel
theorem dX12_lose_25 : decode cX12_lose 25 = .ok (.goto 4, 3) := by decide +kernel
theorem dX12_lose_28 : decode cX12_lose 28 = .ok (.iconst 0, 1) := by decide +kernel
theorem dX12_lose_29 : decode cX12_lose 29 = .ok (.iadd, 1) := by decide +kernel
theorem dX12_lose_30 : decode cX12_lose 30 = .ok (.putfield 253, 3) := by decide +kernel
theorem dX12_lose_33 : decode cX12_lose 33 = .ok (.return_, 1) := by decide +kernel
theorem dX12_beat_0 : decode cX12_beat 0 = .ok (.aload_n 0, 1) := by decide +kernel
theorem dX12_beat_1 : decode cX12_beat 1 = .ok (.getfield 253, 3) := by decide +kernel
theorem dX12_beat_4 : decode cX12_beat 4 = .ok (.istore_n 2, 1) := by decide +kernel
theorem dX12_beat_5 : decode cX12_beat 5 = .ok (.iconst 0, 1) := by decide +kernel
theorem dX12_beat_6 : decode cX12_beat 6 = .ok (.istore_n 3, 1) := by decide +kernel
theorem dX12_beat_7 : decode cX12_beat 7 = .ok (.iload_n 3, 1) := by decide +kernel
theorem dX12_beat_8 : decode cX12_beat 8 = .ok (.aload_n 0, 1) := by decide +kernel
theorem dX12_beat_9 : decode cX12_beat 9 = .ok (.getfield 232, 3) := by decide +kernel
theorem dX12_beat_12 : decode cX12_beat 12 = .ok (.if_icmp .ge 28, 3) := by decide +kernel
theorem dX12_beat_15 : decode cX12_beat 15 = .ok (.iload_n 3, 1) := by decide +kernel
theorem dX12_beat_16 : decode cX12_beat 16 = .ok (.iload_n 1, 1) := by decide +kernel
theorem dX12_beat_17 : decode cX12_beat 17 = .ok (.if_icmp .eq 17, 3) := by decide +kernel
theorem dX12_beat_20 : decode cX12_beat 20 = .ok (.aload_n 0, 1) := by decide +kernel
theorem dX12_beat_21 : decode cX12_beat 21 = .ok (.getfield 72, 3) := by decide +kernel
theorem dX12_beat_24 : decode cX12_beat 24 = .ok (.iload_n 3, 1) := by decide +kernel
theorem dX12_beat_25 : decode cX12_beat 25 = .ok (.iaload, 1) := by decide +kernel
theorem dX12_beat_26 : decode cX12_beat 26 = .ok (.ifCond .le 8, 3) := by decide +kernel
theorem dX12_beat_29 : decode cX12_beat 29 = .ok (.aload_n 0, 1) := by decide +kernel
theorem dX12_beat_30 : decode cX12_beat 30 = .ok (.iload_n 3, 1) := by decide +kernel
theorem dX12_beat_31 : decode cX12_beat 31 = .ok (.invokevirtual 277, 3) := by decide +kernel
theorem dX12_beat_34 : decode cX12_beat 34 = .ok (.iinc 3 1, 3) := by decide +kernel
theorem dX12_beat_37 : decode cX12_beat 37 = .ok (.goto (-30), 3) := by decide +kernel
theorem dX12_beat_40 : decode cX12_beat 40 = .ok (.aload_n 0, 1) := by decide +kernel
theorem dX12_beat_41 : decode cX12_beat 41 = .ok (.dup, 1) := by decide +kernel
theorem dX12_beat_42 : decode cX12_beat 42 = .ok (.getfield 250, 3) := by decide +kernel
theorem dX12_beat_45 : decode cX12_beat 45 = .ok (.iconst 1, 1) := by decide +kernel
theorem dX12_beat_46 : decode cX12_beat 46 = .ok (.iadd, 1) := by decide +kernel
theorem dX12_beat_47 : decode cX12_beat 47 = .ok (.putfield 250, 3) := by decide +kernel
theorem dX12_beat_50 : decode cX12_beat 50 = .ok (.aload_n 0, 1) := by decide +kernel
theorem dX12_beat_51 : decode cX12_beat 51 = .ok (.aload_n 0, 1) := by decide +kernel
theorem dX12_beat_52 : decode cX12_beat 52 = .ok (.getfield 253, 3) := by decide +kernel
theorem dX12_beat_55 : decode cX12_beat 55 = .ok (.iload_n 2, 1) := by decide +kernel
theorem dX12_beat_56 : decode cX12_beat 56 = .ok (.if_icmp .ne 12, 3) := by decide +kernel
theorem dX12_beat_59 : decode cX12_beat 59 = .ok (.aload_n 0, 1) := by decide +kernel
theorem dX12_beat_60 : decode cX12_beat 60 = .ok (.getfield 265, 3) := by decide +kernel
theorem dX12_beat_63 : decode cX12_beat 63 = .ok (.iconst 1, 1) := by decide +kernel
theorem dX12_beat_64 : decode cX12_beat 64 = .ok (.iadd, 1) := by decide +kernel
theorem dX12_beat_65 : decode cX12_beat 65 = .ok (.goto 4, 3) := by decide +kernel
theorem dX12_beat_68 : decode cX12_beat 68 = .ok (.iconst 0, 1) := by decide +kernel
theorem dX12_beat_69 : decode cX12_beat 69 = .ok (.putfield 265, 3) := by decide +kernel
theorem dX12_beat_72 : decode cX12_beat 72 = .ok (.aload_n 0, 1) := by decide +kernel
theorem dX12_beat_73 : decode cX12_beat 73 = .ok (.aload_n 0, 1) := by decide +kernel
theorem dX12_beat_74 : decode cX12_beat 74 = .ok (.getfield 268, 3) := by decide +kernel
theorem dX12_beat_77 : decode cX12_beat 77 = .ok (.aload_n 0, 1) := by decide +kernel
theorem dX12_beat_78 : decode cX12_beat 78 = .ok (.getfield 265, 3) := by decide +kernel
theorem dX12_beat_81 : decode cX12_beat 81 = .ok (.invokestatic 280, 3) := by decide +kernel
theorem dX12_beat_84 : decode cX12_beat 84 = .ok (.putfield 268, 3) := by decide +kernel
theorem dX12_beat_87 : decode cX12_beat 87 = .ok (.aload_n 0, 1) := by decide +kernel
theorem dX12_beat_88 : decode cX12_beat 88 = .ok (.aload_n 0, 1) := by decide +kernel
theorem dX12_beat_89 : decode cX12_beat 89 = .ok (.getfield 271, 3) := by decide +kernel
theorem dX12_beat_92 : decode cX12_beat 92 = .ok (.aload_n 0, 1) := by decide +kernel
theorem dX12_beat_93 : decode cX12_beat 93 = .ok (.getfield 253, 3) := by decide +kernel
theorem dX12_beat_96 : decode cX12_beat 96 = .ok (.iload_n 2, 1) := by decide +kernel
theorem dX12_beat_97 : decode cX12_beat 97 = .ok (.isub, 1) := by decide +kernel
theorem dX12_beat_98 : decode cX12_beat 98 = .ok (.invokestatic 280, 3) := by decide +kernel
theorem dX12_beat_101 : decode cX12_beat 101 = .ok (.putfield 271, 3) := by decide +kernel
theorem dX12_beat_104 : decode cX12_beat 104 = .ok (.aload_n 0, 1) := by decide +kernel
theorem dX12_beat_105 : decode cX12_beat 105 = .ok (.getfield 250, 3) := by decide +kernel
theorem dX12_beat_108 : decode cX12_beat 108 = .ok (.bipush 64, 2) := by decide +kernel
theorem dX12_beat_110 : decode cX12_beat 110 = .ok (.if_icmp .ge 16, 3) := by decide +kernel
theorem dX12_beat_113 : decode cX12_beat 113 = .ok (.aload_n 0, 1) := by decide +kernel
theorem dX12_beat_114 : decode cX12_beat 114 = .ok (.getfield 53, 3) := by decide +kernel
theorem dX12_beat_117 : decode cX12_beat 117 = .ok (.aload_n 0, 1) := by decide +kernel
theorem dX12_beat_118 : decode cX12_beat 118 = .ok (.getfield 250, 3) := by decide +kernel
theorem dX12_beat_121 : decode cX12_beat 121 = .ok (.aload_n 0, 1) := by decide +kernel
theorem dX12_beat_122 : decode cX12_beat 122 = .ok (.invokevirtual 274, 3) := by decide +kernel
theorem dX12_beat_125 : decode cX12_beat 125 = .ok (.iastore, 1) := by decide +kernel
theorem dX12_beat_126 : decode cX12_beat 126 = .ok (.return_, 1) := by decide +kernel
theorem dX12_isLate_0 : decode cX12_isLate 0 = .ok (.aload_n 0, 1) := by decide +kernel
theorem dX12_isLate_1 : decode cX12_isLate 1 = .ok (.getfield 250, 3) := by decide +kernel
theorem dX12_isLate_4 : decode cX12_isLate 4 = .ok (.iload_n 1, 1) := by decide +kernel
theorem dX12_isLate_5 : decode cX12_isLate 5 = .ok (.iadd, 1) := by decide +kernel
theorem dX12_isLate_6 : decode cX12_isLate 6 = .ok (.bipush 99, 2) := by decide +kernel
theorem dX12_isLate_8 : decode cX12_isLate 8 = .ok (.if_icmp .le 7, 3) := by decide +kernel
theorem dX12_isLate_11 : decode cX12_isLate 11 = .ok (.iconst 1, 1) := by decide +kernel
theorem dX12_isLate_12 : decode cX12_isLate 12 = .ok (.goto 4, 3) := by decide +kernel
theorem dX12_isLate_15 : decode cX12_isLate 15 = .ok (.iconst 0, 1) := by decide +kernel
theorem dX12_isLate_16 : decode cX12_isLate 16 = .ok (.ireturn, 1) := by decide +kernel
theorem dX12_run_0 : decode cX12_run 0 = .ok (.aload_n 0, 1) := by decide +kernel
theorem dX12_run_1 : decode cX12_run 1 = .ok (.aload_n 0, 1) := by decide +kernel
theorem dX12_run_2 : decode cX12_run 2 = .ok (.getfield 247, 3) := by decide +kernel
theorem dX12_run_5 : decode cX12_run 5 = .ok (.aload_n 0, 1) := by decide +kernel
theorem dX12_run_6 : decode cX12_run 6 = .ok (.getfield 41, 3) := by decide +kernel
theorem dX12_run_9 : decode cX12_run 9 = .ok (.iload_n 1, 1) := by decide +kernel
theorem dX12_run_10 : decode cX12_run 10 = .ok (.iaload, 1) := by decide +kernel
theorem dX12_run_11 : decode cX12_run 11 = .ok (.invokevirtual 283, 3) := by decide +kernel
theorem dX12_run_14 : decode cX12_run 14 = .ok (.iconst 1, 1) := by decide +kernel
theorem dX12_run_15 : decode cX12_run 15 = .ok (.iadd, 1) := by decide +kernel
theorem dX12_run_16 : decode cX12_run 16 = .ok (.istore_n 2, 1) := by decide +kernel
theorem dX12_run_17 : decode cX12_run 17 = .ok (.aload_n 0, 1) := by decide +kernel
theorem dX12_run_18 : decode cX12_run 18 = .ok (.getfield 72, 3) := by decide +kernel
theorem dX12_run_21 : decode cX12_run 21 = .ok (.iload_n 1, 1) := by decide +kernel
theorem dX12_run_22 : decode cX12_run 22 = .ok (.iaload, 1) := by decide +kernel
theorem dX12_run_23 : decode cX12_run 23 = .ok (.ifCond .eq 11, 3) := by decide +kernel
theorem dX12_run_26 : decode cX12_run 26 = .ok (.aload_n 0, 1) := by decide +kernel
theorem dX12_run_27 : decode cX12_run 27 = .ok (.iload_n 2, 1) := by decide +kernel
theorem dX12_run_28 : decode cX12_run 28 = .ok (.invokevirtual 286, 3) := by decide +kernel
theorem dX12_run_31 : decode cX12_run 31 = .ok (.ifCond .eq 5, 3) := by decide +kernel
theorem dX12_run_34 : decode cX12_run 34 = .ok (.iconst 0, 1) := by decide +kernel
theorem dX12_run_35 : decode cX12_run 35 = .ok (.ireturn, 1) := by decide +kernel
theorem dX12_run_36 : decode cX12_run 36 = .ok (.iconst 1, 1) := by decide +kernel
theorem dX12_run_37 : decode cX12_run 37 = .ok (.istore_n 3, 1) := by decide +kernel
theorem dX12_run_38 : decode cX12_run 38 = .ok (.iload_n 3, 1) := by decide +kernel
theorem dX12_run_39 : decode cX12_run 39 = .ok (.iload_n 2, 1) := by decide +kernel
theorem dX12_run_40 : decode cX12_run 40 = .ok (.if_icmp .ge 14, 3) := by decide +kernel
theorem dX12_run_43 : decode cX12_run 43 = .ok (.aload_n 0, 1) := by decide +kernel
theorem dX12_run_44 : decode cX12_run 44 = .ok (.iconst (-1), 1) := by decide +kernel
theorem dX12_run_45 : decode cX12_run 45 = .ok (.invokevirtual 289, 3) := by decide +kernel
theorem dX12_run_48 : decode cX12_run 48 = .ok (.iinc 3 1, 3) := by decide +kernel
theorem dX12_run_51 : decode cX12_run 51 = .ok (.goto (-13), 3) := by decide +kernel
theorem dX12_run_54 : decode cX12_run 54 = .ok (.aload_n 0, 1) := by decide +kernel
theorem dX12_run_55 : decode cX12_run 55 = .ok (.getfield 72, 3) := by decide +kernel
theorem dX12_run_58 : decode cX12_run 58 = .ok (.iload_n 1, 1) := by decide +kernel
theorem dX12_run_59 : decode cX12_run 59 = .ok (.iaload, 1) := by decide +kernel
theorem dX12_run_60 : decode cX12_run 60 = .ok (.ifCond .le 7, 3) := by decide +kernel
theorem dX12_run_63 : decode cX12_run 63 = .ok (.iconst 1, 1) := by decide +kernel
theorem dX12_run_64 : decode cX12_run 64 = .ok (.goto 4, 3) := by decide +kernel
theorem dX12_run_67 : decode cX12_run 67 = .ok (.iconst 0, 1) := by decide +kernel
theorem dX12_run_68 : decode cX12_run 68 = .ok (.istore_n 3, 1) := by decide +kernel
theorem dX12_run_69 : decode cX12_run 69 = .ok (.aload_n 0, 1) := by decide +kernel
theorem dX12_run_70 : decode cX12_run 70 = .ok (.iload_n 3, 1) := by decide +kernel
theorem dX12_run_71 : decode cX12_run 71 = .ok (.ifCond .eq 7, 3) := by decide +kernel
theorem dX12_run_74 : decode cX12_run 74 = .ok (.iload_n 1, 1) := by decide +kernel
theorem dX12_run_75 : decode cX12_run 75 = .ok (.goto 4, 3) := by decide +kernel
theorem dX12_run_78 : decode cX12_run 78 = .ok (.iconst (-1), 1) := by decide +kernel
theorem dX12_run_79 : decode cX12_run 79 = .ok (.invokevirtual 289, 3) := by decide +kernel
theorem dX12_run_82 : decode cX12_run 82 = .ok (.aload_n 0, 1) := by decide +kernel
theorem dX12_run_83 : decode cX12_run 83 = .ok (.getfield 72, 3) := by decide +kernel
theorem dX12_run_86 : decode cX12_run 86 = .ok (.iload_n 1, 1) := by decide +kernel
theorem dX12_run_87 : decode cX12_run 87 = .ok (.iload_n 3, 1) := by decide +kernel
theorem dX12_run_88 : decode cX12_run 88 = .ok (.ifCond .eq 12, 3) := by decide +kernel
theorem dX12_run_91 : decode cX12_run 91 = .ok (.aload_n 0, 1) := by decide +kernel
theorem dX12_run_92 : decode cX12_run 92 = .ok (.getfield 44, 3) := by decide +kernel
theorem dX12_run_95 : decode cX12_run 95 = .ok (.iload_n 1, 1) := by decide +kernel
theorem dX12_run_96 : decode cX12_run 96 = .ok (.iaload, 1) := by decide +kernel
theorem dX12_run_97 : decode cX12_run 97 = .ok (.goto 4, 3) := by decide +kernel
theorem dX12_run_100 : decode cX12_run 100 = .ok (.iconst 0, 1) := by decide +kernel
theorem dX12_run_101 : decode cX12_run 101 = .ok (.iastore, 1) := by decide +kernel
theorem dX12_run_102 : decode cX12_run 102 = .ok (.aload_n 0, 1) := by decide +kernel
theorem dX12_run_103 : decode cX12_run 103 = .ok (.dup, 1) := by decide +kernel
theorem dX12_run_104 : decode cX12_run 104 = .ok (.getfield 256, 3) := by decide +kernel
theorem dX12_run_107 : decode cX12_run 107 = .ok (.iload_n 3, 1) := by decide +kernel
theorem dX12_run_108 : decode cX12_run 108 = .ok (.ifCond .eq 7, 3) := by decide +kernel
theorem dX12_run_111 : decode cX12_run 111 = .ok (.iconst 1, 1) := by decide +kernel
theorem dX12_run_112 : decode cX12_run 112 = .ok (.goto 4, 3) := by decide +kernel
theorem dX12_run_115 : decode cX12_run 115 = .ok (.iconst 0, 1) := by decide +kernel
theorem dX12_run_116 : decode cX12_run 116 = .ok (.iadd, 1) := by decide +kernel
theorem dX12_run_117 : decode cX12_run 117 = .ok (.putfield 256, 3) := by decide +kernel
theorem dX12_run_120 : decode cX12_run 120 = .ok (.aload_n 0, 1) := by decide +kernel
theorem dX12_run_121 : decode cX12_run 121 = .ok (.getfield 50, 3) := by decide +kernel
theorem dX12_run_124 : decode cX12_run 124 = .ok (.iload_n 1, 1) := by decide +kernel
theorem dX12_run_125 : decode cX12_run 125 = .ok (.dup2, 1) := by decide +kernel
theorem dX12_run_126 : decode cX12_run 126 = .ok (.iaload, 1) := by decide +kernel
theorem dX12_run_127 : decode cX12_run 127 = .ok (.iload_n 3, 1) := by decide +kernel
theorem dX12_run_128 : decode cX12_run 128 = .ok (.ifCond .eq 7, 3) := by decide +kernel
theorem dX12_run_131 : decode cX12_run 131 = .ok (.iconst 1, 1) := by decide +kernel
theorem dX12_run_132 : decode cX12_run 132 = .ok (.goto 4, 3) := by decide +kernel
theorem dX12_run_135 : decode cX12_run 135 = .ok (.iconst 0, 1) := by decide +kernel
theorem dX12_run_136 : decode cX12_run 136 = .ok (.iadd, 1) := by decide +kernel
theorem dX12_run_137 : decode cX12_run 137 = .ok (.iastore, 1) := by decide +kernel
theorem dX12_run_138 : decode cX12_run 138 = .ok (.aload_n 0, 1) := by decide +kernel
theorem dX12_run_139 : decode cX12_run 139 = .ok (.dup, 1) := by decide +kernel
theorem dX12_run_140 : decode cX12_run 140 = .ok (.getfield 259, 3) := by decide +kernel
theorem dX12_run_143 : decode cX12_run 143 = .ok (.iload_n 3, 1) := by decide +kernel
theorem dX12_run_144 : decode cX12_run 144 = .ok (.ifCond .eq 7, 3) := by decide +kernel
theorem dX12_run_147 : decode cX12_run 147 = .ok (.iconst 0, 1) := by decide +kernel
theorem dX12_run_148 : decode cX12_run 148 = .ok (.goto 4, 3) := by decide +kernel
theorem dX12_run_151 : decode cX12_run 151 = .ok (.iconst 1, 1) := by decide +kernel
theorem dX12_run_152 : decode cX12_run 152 = .ok (.iadd, 1) := by decide +kernel
theorem dX12_run_153 : decode cX12_run 153 = .ok (.putfield 259, 3) := by decide +kernel
theorem dX12_run_156 : decode cX12_run 156 = .ok (.aload_n 0, 1) := by decide +kernel
theorem dX12_run_157 : decode cX12_run 157 = .ok (.dup, 1) := by decide +kernel
theorem dX12_run_158 : decode cX12_run 158 = .ok (.getfield 262, 3) := by decide +kernel
theorem dX12_run_161 : decode cX12_run 161 = .ok (.iload_n 2, 1) := by decide +kernel
theorem dX12_run_162 : decode cX12_run 162 = .ok (.iconst 1, 1) := by decide +kernel
theorem dX12_run_163 : decode cX12_run 163 = .ok (.isub, 1) := by decide +kernel
theorem dX12_run_164 : decode cX12_run 164 = .ok (.iadd, 1) := by decide +kernel
theorem dX12_run_165 : decode cX12_run 165 = .ok (.putfield 262, 3) := by decide +kernel
theorem dX12_run_168 : decode cX12_run 168 = .ok (.aload_n 0, 1) := by decide +kernel
theorem dX12_run_169 : decode cX12_run 169 = .ok (.aload_n 0, 1) := by decide +kernel
theorem dX12_run_170 : decode cX12_run 170 = .ok (.getfield 41, 3) := by decide +kernel
theorem dX12_run_173 : decode cX12_run 173 = .ok (.iload_n 1, 1) := by decide +kernel
theorem dX12_run_174 : decode cX12_run 174 = .ok (.iaload, 1) := by decide +kernel
theorem dX12_run_175 : decode cX12_run 175 = .ok (.putfield 247, 3) := by decide +kernel
theorem dX12_run_178 : decode cX12_run 178 = .ok (.iconst 1, 1) := by decide +kernel
theorem dX12_run_179 : decode cX12_run 179 = .ok (.ireturn, 1) := by decide +kernel
theorem dX12_sets_0 : decode cX12_sets 0 = .ok (.aload_n 0, 1) := by decide +kernel
theorem dX12_sets_1 : decode cX12_sets 1 = .ok (.aload_n 0, 1) := by decide +kernel
theorem dX12_sets_2 : decode cX12_sets 2 = .ok (.getfield 247, 3) := by decide +kernel
theorem dX12_sets_5 : decode cX12_sets 5 = .ok (.aload_n 0, 1) := by decide +kernel
theorem dX12_sets_6 : decode cX12_sets 6 = .ok (.getfield 41, 3) := by decide +kernel
theorem dX12_sets_9 : decode cX12_sets 9 = .ok (.iload_n 1, 1) := by decide +kernel
theorem dX12_sets_10 : decode cX12_sets 10 = .ok (.iaload, 1) := by decide +kernel
theorem dX12_sets_11 : decode cX12_sets 11 = .ok (.invokevirtual 283, 3) := by decide +kernel
theorem dX12_sets_14 : decode cX12_sets 14 = .ok (.iconst 1, 1) := by decide +kernel
theorem dX12_sets_15 : decode cX12_sets 15 = .ok (.iadd, 1) := by decide +kernel
theorem dX12_sets_16 : decode cX12_sets 16 = .ok (.istore_n 2, 1) := by decide +kernel
theorem dX12_sets_17 : decode cX12_sets 17 = .ok (.aload_n 0, 1) := by decide +kernel
theorem dX12_sets_18 : decode cX12_sets 18 = .ok (.getfield 72, 3) := by decide +kernel
theorem dX12_sets_21 : decode cX12_sets 21 = .ok (.iload_n 1, 1) := by decide +kernel
theorem dX12_sets_22 : decode cX12_sets 22 = .ok (.iaload, 1) := by decide +kernel
theorem dX12_sets_23 : decode cX12_sets 23 = .ok (.ifCond .gt 11, 3) := by decide +kernel
theorem dX12_sets_26 : decode cX12_sets 26 = .ok (.aload_n 0, 1) := by decide +kernel
theorem dX12_sets_27 : decode cX12_sets 27 = .ok (.iload_n 2, 1) := by decide +kernel
theorem dX12_sets_28 : decode cX12_sets 28 = .ok (.invokevirtual 286, 3) := by decide +kernel
theorem dX12_sets_31 : decode cX12_sets 31 = .ok (.ifCond .eq 5, 3) := by decide +kernel
theorem dX12_sets_34 : decode cX12_sets 34 = .ok (.iconst 0, 1) := by decide +kernel
theorem dX12_sets_35 : decode cX12_sets 35 = .ok (.ireturn, 1) := by decide +kernel
theorem dX12_sets_36 : decode cX12_sets 36 = .ok (.iconst 0, 1) := by decide +kernel
theorem dX12_sets_37 : decode cX12_sets 37 = .ok (.istore_n 3, 1) := by decide +kernel
theorem dX12_sets_38 : decode cX12_sets 38 = .ok (.iload_n 3, 1) := by decide +kernel
theorem dX12_sets_39 : decode cX12_sets 39 = .ok (.iload_n 2, 1) := by decide +kernel
theorem dX12_sets_40 : decode cX12_sets 40 = .ok (.if_icmp .ge 14, 3) := by decide +kernel
theorem dX12_sets_43 : decode cX12_sets 43 = .ok (.aload_n 0, 1) := by decide +kernel
theorem dX12_sets_44 : decode cX12_sets 44 = .ok (.iconst (-1), 1) := by decide +kernel
theorem dX12_sets_45 : decode cX12_sets 45 = .ok (.invokevirtual 289, 3) := by decide +kernel
theorem dX12_sets_48 : decode cX12_sets 48 = .ok (.iinc 3 1, 3) := by decide +kernel
theorem dX12_sets_51 : decode cX12_sets 51 = .ok (.goto (-13), 3) := by decide +kernel
theorem dX12_sets_54 : decode cX12_sets 54 = .ok (.aload_n 0, 1) := by decide +kernel
theorem dX12_sets_55 : decode cX12_sets 55 = .ok (.getfield 72, 3) := by decide +kernel
theorem dX12_sets_58 : decode cX12_sets 58 = .ok (.iload_n 1, 1) := by decide +kernel
theorem dX12_sets_59 : decode cX12_sets 59 = .ok (.aload_n 0, 1) := by decide +kernel
theorem dX12_sets_60 : decode cX12_sets 60 = .ok (.getfield 44, 3) := by decide +kernel
theorem dX12_sets_63 : decode cX12_sets 63 = .ok (.iload_n 1, 1) := by decide +kernel
theorem dX12_sets_64 : decode cX12_sets 64 = .ok (.iaload, 1) := by decide +kernel
theorem dX12_sets_65 : decode cX12_sets 65 = .ok (.iastore, 1) := by decide +kernel
theorem dX12_sets_66 : decode cX12_sets 66 = .ok (.aload_n 0, 1) := by decide +kernel
theorem dX12_sets_67 : decode cX12_sets 67 = .ok (.dup, 1) := by decide +kernel
theorem dX12_sets_68 : decode cX12_sets 68 = .ok (.getfield 262, 3) := by decide +kernel
theorem dX12_sets_71 : decode cX12_sets 71 = .ok (.iload_n 2, 1) := by decide +kernel
theorem dX12_sets_72 : decode cX12_sets 72 = .ok (.iconst 1, 1) := by decide +kernel
theorem dX12_sets_73 : decode cX12_sets 73 = .ok (.isub, 1) := by decide +kernel
theorem dX12_sets_74 : decode cX12_sets 74 = .ok (.iadd, 1) := by decide +kernel
theorem dX12_sets_75 : decode cX12_sets 75 = .ok (.putfield 262, 3) := by decide +kernel
theorem dX12_sets_78 : decode cX12_sets 78 = .ok (.aload_n 0, 1) := by decide +kernel
theorem dX12_sets_79 : decode cX12_sets 79 = .ok (.aload_n 0, 1) := by decide +kernel
theorem dX12_sets_80 : decode cX12_sets 80 = .ok (.getfield 41, 3) := by decide +kernel
theorem dX12_sets_83 : decode cX12_sets 83 = .ok (.iload_n 1, 1) := by decide +kernel
theorem dX12_sets_84 : decode cX12_sets 84 = .ok (.iaload, 1) := by decide +kernel
theorem dX12_sets_85 : decode cX12_sets 85 = .ok (.putfield 247, 3) := by decide +kernel
theorem dX12_sets_88 : decode cX12_sets 88 = .ok (.iconst 1, 1) := by decide +kernel
theorem dX12_sets_89 : decode cX12_sets 89 = .ok (.ireturn, 1) := by decide +kernel
theorem dX12_does_0 : decode cX12_does 0 = .ok (.iload_n 1, 1) := by decide +kernel
theorem dX12_does_1 : decode cX12_does 1 = .ok (.ifCond .ne 20, 3) := by decide +kernel
theorem dX12_does_4 : decode cX12_does 4 = .ok (.aload_n 0, 1) := by decide +kernel
theorem dX12_does_5 : decode cX12_does 5 = .ok (.iconst 1, 1) := by decide +kernel
theorem dX12_does_6 : decode cX12_does 6 = .ok (.invokevirtual 286, 3) := by decide +kernel
theorem dX12_does_9 : decode cX12_does 9 = .ok (.ifCond .eq 5, 3) := by decide +kernel
theorem dX12_does_12 : decode cX12_does 12 = .ok (.iconst 0, 1) := by decide +kernel
theorem dX12_does_13 : decode cX12_does 13 = .ok (.ireturn, 1) := by decide +kernel
theorem dX12_does_14 : decode cX12_does 14 = .ok (.aload_n 0, 1) := by decide +kernel
theorem dX12_does_15 : decode cX12_does 15 = .ok (.iconst (-1), 1) := by decide +kernel
theorem dX12_does_16 : decode cX12_does 16 = .ok (.invokevirtual 289, 3) := by decide +kernel
theorem dX12_does_19 : decode cX12_does 19 = .ok (.iconst 1, 1) := by decide +kernel
theorem dX12_does_20 : decode cX12_does 20 = .ok (.ireturn, 1) := by decide +kernel
theorem dX12_does_21 : decode cX12_does 21 = .ok (.aload_n 0, 1) := by decide +kernel
theorem dX12_does_22 : decode cX12_does 22 = .ok (.iload_n 2, 1) := by decide +kernel
theorem dX12_does_23 : decode cX12_does 23 = .ok (.invokevirtual 244, 3) := by decide +kernel
theorem dX12_does_26 : decode cX12_does 26 = .ok (.ifCond .ne 5, 3) := by decide +kernel
theorem dX12_does_29 : decode cX12_does 29 = .ok (.iconst 0, 1) := by decide +kernel
theorem dX12_does_30 : decode cX12_does 30 = .ok (.ireturn, 1) := by decide +kernel
theorem dX12_does_31 : decode cX12_does 31 = .ok (.iload_n 1, 1) := by decide +kernel
theorem dX12_does_32 : decode cX12_does 32 = .ok (.tableswitch 58 1 3 #[28, 34, 40], 28) := by decide +kernel
theorem dX12_does_60 : decode cX12_does 60 = .ok (.aload_n 0, 1) := by decide +kernel
theorem dX12_does_61 : decode cX12_does 61 = .ok (.iload_n 2, 1) := by decide +kernel
theorem dX12_does_62 : decode cX12_does 62 = .ok (.invokevirtual 292, 3) := by decide +kernel
theorem dX12_does_65 : decode cX12_does 65 = .ok (.ireturn, 1) := by decide +kernel
theorem dX12_does_66 : decode cX12_does 66 = .ok (.aload_n 0, 1) := by decide +kernel
theorem dX12_does_67 : decode cX12_does 67 = .ok (.iload_n 2, 1) := by decide +kernel
theorem dX12_does_68 : decode cX12_does 68 = .ok (.invokevirtual 295, 3) := by decide +kernel
theorem dX12_does_71 : decode cX12_does 71 = .ok (.ireturn, 1) := by decide +kernel
theorem dX12_does_72 : decode cX12_does 72 = .ok (.aload_n 0, 1) := by decide +kernel
theorem dX12_does_73 : decode cX12_does 73 = .ok (.getfield 72, 3) := by decide +kernel
theorem dX12_does_76 : decode cX12_does 76 = .ok (.iload_n 2, 1) := by decide +kernel
theorem dX12_does_77 : decode cX12_does 77 = .ok (.iaload, 1) := by decide +kernel
theorem dX12_does_78 : decode cX12_does 78 = .ok (.ifCond .ne 5, 3) := by decide +kernel
theorem dX12_does_81 : decode cX12_does 81 = .ok (.iconst 0, 1) := by decide +kernel
theorem dX12_does_82 : decode cX12_does 82 = .ok (.ireturn, 1) := by decide +kernel
theorem dX12_does_83 : decode cX12_does 83 = .ok (.aload_n 0, 1) := by decide +kernel
theorem dX12_does_84 : decode cX12_does 84 = .ok (.iload_n 2, 1) := by decide +kernel
theorem dX12_does_85 : decode cX12_does 85 = .ok (.invokevirtual 277, 3) := by decide +kernel
theorem dX12_does_88 : decode cX12_does 88 = .ok (.iconst 1, 1) := by decide +kernel
theorem dX12_does_89 : decode cX12_does 89 = .ok (.ireturn, 1) := by decide +kernel
theorem dX12_does_90 : decode cX12_does 90 = .ok (.aload_n 0, 1) := by decide +kernel
theorem dX12_does_91 : decode cX12_does 91 = .ok (.getfield 44, 3) := by decide +kernel
theorem dX12_does_94 : decode cX12_does 94 = .ok (.iload_n 2, 1) := by decide +kernel
theorem dX12_does_95 : decode cX12_does 95 = .ok (.iaload, 1) := by decide +kernel
theorem dX12_does_96 : decode cX12_does 96 = .ok (.bipush 6, 2) := by decide +kernel
theorem dX12_does_98 : decode cX12_does 98 = .ok (.if_icmp .ne 5, 3) := by decide +kernel
theorem dX12_does_101 : decode cX12_does 101 = .ok (.iconst 0, 1) := by decide +kernel
theorem dX12_does_102 : decode cX12_does 102 = .ok (.ireturn, 1) := by decide +kernel
theorem dX12_does_103 : decode cX12_does 103 = .ok (.aload_n 0, 1) := by decide +kernel
theorem dX12_does_104 : decode cX12_does 104 = .ok (.getfield 44, 3) := by decide +kernel
theorem dX12_does_107 : decode cX12_does 107 = .ok (.iload_n 2, 1) := by decide +kernel
theorem dX12_does_108 : decode cX12_does 108 = .ok (.dup2, 1) := by decide +kernel
theorem dX12_does_109 : decode cX12_does 109 = .ok (.iaload, 1) := by decide +kernel
theorem dX12_does_110 : decode cX12_does 110 = .ok (.iconst 1, 1) := by decide +kernel
theorem dX12_does_111 : decode cX12_does 111 = .ok (.iadd, 1) := by decide +kernel
theorem dX12_does_112 : decode cX12_does 112 = .ok (.iastore, 1) := by decide +kernel
theorem dX12_does_113 : decode cX12_does 113 = .ok (.iconst 1, 1) := by decide +kernel
theorem dX12_does_114 : decode cX12_does 114 = .ok (.ireturn, 1) := by decide +kernel
theorem dX12_deeds_0 : decode cX12_deeds 0 = .ok (.aload_n 0, 1) := by decide +kernel
theorem dX12_deeds_1 : decode cX12_deeds 1 = .ok (.getfield 29, 3) := by decide +kernel
theorem dX12_deeds_4 : decode cX12_deeds 4 = .ok (.bipush 81, 2) := by decide +kernel
theorem dX12_deeds_6 : decode cX12_deeds 6 = .ok (.aload_n 0, 1) := by decide +kernel
theorem dX12_deeds_7 : decode cX12_deeds 7 = .ok (.getfield 298, 3) := by decide +kernel
theorem dX12_deeds_10 : decode cX12_deeds 10 = .ok (.imul, 1) := by decide +kernel
theorem dX12_deeds_11 : decode cX12_deeds 11 = .ok (.iaload, 1) := by decide +kernel
theorem dX12_deeds_12 : decode cX12_deeds 12 = .ok (.ireturn, 1) := by decide +kernel
theorem dX12_deedOf_0 : decode cX12_deedOf 0 = .ok (.aload_n 0, 1) := by decide +kernel
theorem dX12_deedOf_1 : decode cX12_deedOf 1 = .ok (.getfield 29, 3) := by decide +kernel
theorem dX12_deedOf_4 : decode cX12_deedOf 4 = .ok (.bipush 81, 2) := by decide +kernel
theorem dX12_deedOf_6 : decode cX12_deedOf 6 = .ok (.aload_n 0, 1) := by decide +kernel
theorem dX12_deedOf_7 : decode cX12_deedOf 7 = .ok (.getfield 298, 3) := by decide +kernel
theorem dX12_deedOf_10 : decode cX12_deedOf 10 = .ok (.imul, 1) := by decide +kernel
theorem dX12_deedOf_11 : decode cX12_deedOf 11 = .ok (.iconst 1, 1) := by decide +kernel
theorem dX12_deedOf_12 : decode cX12_deedOf 12 = .ok (.iadd, 1) := by decide +kernel
theorem dX12_deedOf_13 : decode cX12_deedOf 13 = .ok (.iconst 2, 1) := by decide +kernel
theorem dX12_deedOf_14 : decode cX12_deedOf 14 = .ok (.iload_n 1, 1) := by decide +kernel
theorem dX12_deedOf_15 : decode cX12_deedOf 15 = .ok (.imul, 1) := by decide +kernel
theorem dX12_deedOf_16 : decode cX12_deedOf 16 = .ok (.iadd, 1) := by decide +kernel
theorem dX12_deedOf_17 : decode cX12_deedOf 17 = .ok (.iload_n 2, 1) := by decide +kernel
theorem dX12_deedOf_18 : decode cX12_deedOf 18 = .ok (.iadd, 1) := by decide +kernel
theorem dX12_deedOf_19 : decode cX12_deedOf 19 = .ok (.iaload, 1) := by decide +kernel
theorem dX12_deedOf_20 : decode cX12_deedOf 20 = .ok (.ireturn, 1) := by decide +kernel
theorem dX12_hasShow_0 : decode cX12_hasShow 0 = .ok (.aload_n 0, 1) := by decide +kernel
theorem dX12_hasShow_1 : decode cX12_hasShow 1 = .ok (.iload_n 1, 1) := by decide +kernel
theorem dX12_hasShow_2 : decode cX12_hasShow 2 = .ok (.putfield 298, 3) := by decide +kernel
theorem dX12_hasShow_5 : decode cX12_hasShow 5 = .ok (.aload_n 0, 1) := by decide +kernel
theorem dX12_hasShow_6 : decode cX12_hasShow 6 = .ok (.iconst 1, 1) := by decide +kernel
theorem dX12_hasShow_7 : decode cX12_hasShow 7 = .ok (.iload_n 1, 1) := by decide +kernel
theorem dX12_hasShow_8 : decode cX12_hasShow 8 = .ok (.invokevirtual 209, 3) := by decide +kernel
theorem dX12_hasShow_11 : decode cX12_hasShow 11 = .ok (.ireturn, 1) := by decide +kernel
theorem dX12_deed_0 : decode cX12_deed 0 = .ok (.aload_n 0, 1) := by decide +kernel
theorem dX12_deed_1 : decode cX12_deed 1 = .ok (.iconst 0, 1) := by decide +kernel
theorem dX12_deed_2 : decode cX12_deed 2 = .ok (.putfield 88, 3) := by decide +kernel
theorem dX12_deed_5 : decode cX12_deed 5 = .ok (.aload_n 0, 1) := by decide +kernel
theorem dX12_deed_6 : decode cX12_deed 6 = .ok (.iload_n 1, 1) := by decide +kernel
theorem dX12_deed_7 : decode cX12_deed 7 = .ok (.invokevirtual 301, 3) := by decide +kernel
theorem dX12_deed_10 : decode cX12_deed 10 = .ok (.ifCond .ne 6, 3) := by decide +kernel
theorem dX12_deed_13 : decode cX12_deed 13 = .ok (.bipush (-2), 2) := by decide +kernel
theorem dX12_deed_15 : decode cX12_deed 15 = .ok (.ireturn, 1) := by decide +kernel
theorem dX12_deed_16 : decode cX12_deed 16 = .ok (.iload_n 2, 1) := by decide +kernel
theorem dX12_deed_17 : decode cX12_deed 17 = .ok (.iconst (-1), 1) := by decide +kernel
theorem dX12_deed_18 : decode cX12_deed 18 = .ok (.if_icmp .ne 17, 3) := by decide +kernel
theorem dX12_deed_21 : decode cX12_deed 21 = .ok (.iload_n 3, 1) := by decide +kernel
theorem dX12_deed_22 : decode cX12_deed 22 = .ok (.ifCond .ne 10, 3) := by decide +kernel
theorem dX12_deed_25 : decode cX12_deed 25 = .ok (.aload_n 0, 1) := by decide +kernel
theorem dX12_deed_26 : decode cX12_deed 26 = .ok (.invokevirtual 304, 3) := by decide +kernel
theorem dX12_deed_29 : decode cX12_deed 29 = .ok (.goto 5, 3) := by decide +kernel
theorem dX12_deed_32 : decode cX12_deed 32 = .ok (.bipush (-2), 2) := by decide +kernel
theorem dX12_deed_34 : decode cX12_deed 34 = .ok (.ireturn, 1) := by decide +kernel
theorem dX12_deed_35 : decode cX12_deed 35 = .ok (.iload_n 2, 1) := by decide +kernel
theorem dX12_deed_36 : decode cX12_deed 36 = .ok (.iconst 0, 1) := by decide +kernel
theorem dX12_deed_37 : decode cX12_deed 37 = .ok (.aload_n 0, 1) := by decide +kernel
theorem dX12_deed_38 : decode cX12_deed 38 = .ok (.invokevirtual 304, 3) := by decide +kernel
theorem dX12_deed_41 : decode cX12_deed 41 = .ok (.iconst 1, 1) := by decide +kernel
theorem dX12_deed_42 : decode cX12_deed 42 = .ok (.isub, 1) := by decide +kernel
theorem dX12_deed_43 : decode cX12_deed 43 = .ok (.invokestatic 100, 3) := by decide +kernel
theorem dX12_deed_46 : decode cX12_deed 46 = .ok (.ifCond .eq 21, 3) := by decide +kernel
theorem dX12_deed_49 : decode cX12_deed 49 = .ok (.iload_n 3, 1) := by decide +kernel
theorem dX12_deed_50 : decode cX12_deed 50 = .ok (.iconst 0, 1) := by decide +kernel
theorem dX12_deed_51 : decode cX12_deed 51 = .ok (.iconst 1, 1) := by decide +kernel
theorem dX12_deed_52 : decode cX12_deed 52 = .ok (.invokestatic 100, 3) := by decide +kernel
theorem dX12_deed_55 : decode cX12_deed 55 = .ok (.ifCond .eq 12, 3) := by decide +kernel
theorem dX12_deed_58 : decode cX12_deed 58 = .ok (.aload_n 0, 1) := by decide +kernel
theorem dX12_deed_59 : decode cX12_deed 59 = .ok (.iload_n 2, 1) := by decide +kernel
theorem dX12_deed_60 : decode cX12_deed 60 = .ok (.iload_n 3, 1) := by decide +kernel
theorem dX12_deed_61 : decode cX12_deed 61 = .ok (.invokevirtual 307, 3) := by decide +kernel
theorem dX12_deed_64 : decode cX12_deed 64 = .ok (.goto 5, 3) := by decide +kernel
theorem dX12_deed_67 : decode cX12_deed 67 = .ok (.bipush (-2), 2) := by decide +kernel
theorem dX12_deed_69 : decode cX12_deed 69 = .ok (.ireturn, 1) := by decide +kernel
theorem dX12_doesDeed_0 : decode cX12_doesDeed 0 = .ok (.aload_n 0, 1) := by decide +kernel
theorem dX12_doesDeed_1 : decode cX12_doesDeed 1 = .ok (.aload_n 0, 1) := by decide +kernel
theorem dX12_doesDeed_2 : decode cX12_doesDeed 2 = .ok (.iload_n 1, 1) := by decide +kernel
theorem dX12_doesDeed_3 : decode cX12_doesDeed 3 = .ok (.iconst 0, 1) := by decide +kernel
theorem dX12_doesDeed_4 : decode cX12_doesDeed 4 = .ok (.invokevirtual 307, 3) := by decide +kernel
theorem dX12_doesDeed_7 : decode cX12_doesDeed 7 = .ok (.aload_n 0, 1) := by decide +kernel
theorem dX12_doesDeed_8 : decode cX12_doesDeed 8 = .ok (.iload_n 1, 1) := by decide +kernel
theorem dX12_doesDeed_9 : decode cX12_doesDeed 9 = .ok (.iconst 1, 1) := by decide +kernel
theorem dX12_doesDeed_10 : decode cX12_doesDeed 10 = .ok (.invokevirtual 307, 3) := by decide +kernel
theorem dX12_doesDeed_13 : decode cX12_doesDeed 13 = .ok (.invokevirtual 310, 3) := by decide +kernel
theorem dX12_doesDeed_16 : decode cX12_doesDeed 16 = .ok (.ireturn, 1) := by decide +kernel
theorem dX12_play_0 : decode cX12_play 0 = .ok (.iconst 0, 1) := by decide +kernel
theorem dX12_play_1 : decode cX12_play 1 = .ok (.istore_n 2, 1) := by decide +kernel
theorem dX12_play_2 : decode cX12_play 2 = .ok (.iload_n 2, 1) := by decide +kernel
theorem dX12_play_3 : decode cX12_play 3 = .ok (.iload_n 1, 1) := by decide +kernel
theorem dX12_play_4 : decode cX12_play 4 = .ok (.if_icmp .ge 17, 3) := by decide +kernel
theorem dX12_play_7 : decode cX12_play 7 = .ok (.aload_n 0, 1) := by decide +kernel
theorem dX12_play_8 : decode cX12_play 8 = .ok (.iload_n 2, 1) := by decide +kernel
theorem dX12_play_9 : decode cX12_play 9 = .ok (.invokevirtual 313, 3) := by decide +kernel
theorem dX12_play_12 : decode cX12_play 12 = .ok (.ifCond .eq 9, 3) := by decide +kernel
theorem dX12_play_15 : decode cX12_play 15 = .ok (.iinc 2 1, 3) := by decide +kernel
theorem dX12_play_18 : decode cX12_play 18 = .ok (.goto (-16), 3) := by decide +kernel
theorem dX12_play_21 : decode cX12_play 21 = .ok (.iload_n 2, 1) := by decide +kernel
theorem dX12_play_22 : decode cX12_play 22 = .ok (.ireturn, 1) := by decide +kernel
theorem dX12_layAll_0 : decode cX12_layAll 0 = .ok (.aload_n 0, 1) := by decide +kernel
theorem dX12_layAll_1 : decode cX12_layAll 1 = .ok (.iload_n 2, 1) := by decide +kernel
theorem dX12_layAll_2 : decode cX12_layAll 2 = .ok (.invokevirtual 301, 3) := by decide +kernel
theorem dX12_layAll_5 : decode cX12_layAll 5 = .ok (.ifCond .eq 11, 3) := by decide +kernel
theorem dX12_layAll_8 : decode cX12_layAll 8 = .ok (.aload_n 0, 1) := by decide +kernel
theorem dX12_layAll_9 : decode cX12_layAll 9 = .ok (.iload_n 1, 1) := by decide +kernel
theorem dX12_layAll_10 : decode cX12_layAll 10 = .ok (.invokevirtual 241, 3) := by decide +kernel
theorem dX12_layAll_13 : decode cX12_layAll 13 = .ok (.ifCond .ne 5, 3) := by decide +kernel
theorem dX12_layAll_16 : decode cX12_layAll 16 = .ok (.iconst 0, 1) := by decide +kernel
theorem dX12_layAll_17 : decode cX12_layAll 17 = .ok (.ireturn, 1) := by decide +kernel
theorem dX12_layAll_18 : decode cX12_layAll 18 = .ok (.aload_n 0, 1) := by decide +kernel
theorem dX12_layAll_19 : decode cX12_layAll 19 = .ok (.invokevirtual 316, 3) := by decide +kernel
theorem dX12_layAll_22 : decode cX12_layAll 22 = .ok (.iconst 1, 1) := by decide +kernel
theorem dX12_layAll_23 : decode cX12_layAll 23 = .ok (.ireturn, 1) := by decide +kernel
theorem dX12_stop_0 : decode cX12_stop 0 = .ok (.aload_n 0, 1) := by decide +kernel
theorem dX12_stop_1 : decode cX12_stop 1 = .ok (.iconst 0, 1) := by decide +kernel
theorem dX12_stop_2 : decode cX12_stop 2 = .ok (.putfield 88, 3) := by decide +kernel
theorem dX12_stop_5 : decode cX12_stop 5 = .ok (.aload_n 0, 1) := by decide +kernel
theorem dX12_stop_6 : decode cX12_stop 6 = .ok (.iload_n 1, 1) := by decide +kernel
theorem dX12_stop_7 : decode cX12_stop 7 = .ok (.iload_n 2, 1) := by decide +kernel
theorem dX12_stop_8 : decode cX12_stop 8 = .ok (.invokevirtual 319, 3) := by decide +kernel
theorem dX12_stop_11 : decode cX12_stop 11 = .ok (.ifCond .eq 14, 3) := by decide +kernel
theorem dX12_stop_14 : decode cX12_stop 14 = .ok (.aload_n 0, 1) := by decide +kernel
theorem dX12_stop_15 : decode cX12_stop 15 = .ok (.aload_n 0, 1) := by decide +kernel
theorem dX12_stop_16 : decode cX12_stop 16 = .ok (.invokevirtual 304, 3) := by decide +kernel
theorem dX12_stop_19 : decode cX12_stop 19 = .ok (.invokevirtual 322, 3) := by decide +kernel
theorem dX12_stop_22 : decode cX12_stop 22 = .ok (.goto 4, 3) := by decide +kernel
theorem dX12_stop_25 : decode cX12_stop 25 = .ok (.iconst (-1), 1) := by decide +kernel
theorem dX12_stop_26 : decode cX12_stop 26 = .ok (.ireturn, 1) := by decide +kernel
theorem dX12_ofState_0 : decode cX12_ofState 0 = .ok (.iload_n 1, 1) := by decide +kernel
theorem dX12_ofState_1 : decode cX12_ofState 1 = .ok (.bipush 10, 2) := by decide +kernel
theorem dX12_ofState_3 : decode cX12_ofState 3 = .ok (.irem, 1) := by decide +kernel
theorem dX12_ofState_4 : decode cX12_ofState 4 = .ok (.istore_n 2, 1) := by decide +kernel
theorem dX12_ofState_5 : decode cX12_ofState 5 = .ok (.iload_n 1, 1) := by decide +kernel
theorem dX12_ofState_6 : decode cX12_ofState 6 = .ok (.bipush 10, 2) := by decide +kernel
theorem dX12_ofState_8 : decode cX12_ofState 8 = .ok (.if_icmp .lt 43, 3) := by decide +kernel
theorem dX12_ofState_11 : decode cX12_ofState 11 = .ok (.iload_n 1, 1) := by decide +kernel
theorem dX12_ofState_12 : decode cX12_ofState 12 = .ok (.bipush 30, 2) := by decide +kernel
theorem dX12_ofState_14 : decode cX12_ofState 14 = .ok (.if_icmp .ge 35, 3) := by decide +kernel
theorem dX12_ofState_17 : decode cX12_ofState 17 = .ok (.aload_n 0, 1) := by decide +kernel
theorem dX12_ofState_18 : decode cX12_ofState 18 = .ok (.iload_n 2, 1) := by decide +kernel
theorem dX12_ofState_19 : decode cX12_ofState 19 = .ok (.invokevirtual 244, 3) := by decide +kernel
theorem dX12_ofState_22 : decode cX12_ofState 22 = .ok (.ifCond .eq 27, 3) := by decide +kernel
theorem dX12_ofState_25 : decode cX12_ofState 25 = .ok (.iload_n 1, 1) := by decide +kernel
theorem dX12_ofState_26 : decode cX12_ofState 26 = .ok (.bipush 20, 2) := by decide +kernel
theorem dX12_ofState_28 : decode cX12_ofState 28 = .ok (.if_icmp .ge 12, 3) := by decide +kernel
theorem dX12_ofState_31 : decode cX12_ofState 31 = .ok (.aload_n 0, 1) := by decide +kernel
theorem dX12_ofState_32 : decode cX12_ofState 32 = .ok (.getfield 72, 3) := by decide +kernel
theorem dX12_ofState_35 : decode cX12_ofState 35 = .ok (.iload_n 2, 1) := by decide +kernel
theorem dX12_ofState_36 : decode cX12_ofState 36 = .ok (.iaload, 1) := by decide +kernel
theorem dX12_ofState_37 : decode cX12_ofState 37 = .ok (.goto 13, 3) := by decide +kernel
theorem dX12_ofState_40 : decode cX12_ofState 40 = .ok (.aload_n 0, 1) := by decide +kernel
theorem dX12_ofState_41 : decode cX12_ofState 41 = .ok (.getfield 44, 3) := by decide +kernel
theorem dX12_ofState_44 : decode cX12_ofState 44 = .ok (.iload_n 2, 1) := by decide +kernel
theorem dX12_ofState_45 : decode cX12_ofState 45 = .ok (.iaload, 1) := by decide +kernel
theorem dX12_ofState_46 : decode cX12_ofState 46 = .ok (.goto 4, 3) := by decide +kernel
theorem dX12_ofState_49 : decode cX12_ofState 49 = .ok (.iconst (-1), 1) := by decide +kernel
theorem dX12_ofState_50 : decode cX12_ofState 50 = .ok (.ireturn, 1) := by decide +kernel
theorem dX12_ofState_51 : decode cX12_ofState 51 = .ok (.iload_n 1, 1) := by decide +kernel
theorem dX12_ofState_52 : decode cX12_ofState 52 = .ok (.tableswitch 61 0 4 #[36, 41, 46, 51, 56], 36) := by decide +kernel
theorem dX12_ofState_88 : decode cX12_ofState 88 = .ok (.aload_n 0, 1) := by decide +kernel
theorem dX12_ofState_89 : decode cX12_ofState 89 = .ok (.getfield 250, 3) := by decide +kernel
theorem dX12_ofState_92 : decode cX12_ofState 92 = .ok (.ireturn, 1) := by decide +kernel
theorem dX12_ofState_93 : decode cX12_ofState 93 = .ok (.aload_n 0, 1) := by decide +kernel
theorem dX12_ofState_94 : decode cX12_ofState 94 = .ok (.getfield 247, 3) := by decide +kernel
