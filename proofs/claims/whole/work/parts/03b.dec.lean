theorem dX3_init_0 : decode cX3_init 0 = .ok (.aload_n 0, 1) := by decide +kernel
theorem dX3_init_1 : decode cX3_init 1 = .ok (.invokespecial 3, 3) := by decide +kernel
theorem dX3_init_4 : decode cX3_init 4 = .ok (.aload_n 0, 1) := by decide +kernel
theorem dX3_init_5 : decode cX3_init 5 = .ok (.aload_n 1, 1) := by decide +kernel
theorem dX3_init_6 : decode cX3_init 6 = .ok (.putfield 9, 3) := by decide +kernel
theorem dX3_init_9 : decode cX3_init 9 = .ok (.aload_n 0, 1) := by decide +kernel
theorem dX3_init_10 : decode cX3_init 10 = .ok (.aload_n 2, 1) := by decide +kernel
theorem dX3_init_11 : decode cX3_init 11 = .ok (.putfield 15, 3) := by decide +kernel
theorem dX3_init_14 : decode cX3_init 14 = .ok (.aload_n 0, 1) := by decide +kernel
theorem dX3_init_15 : decode cX3_init 15 = .ok (.aload_n 3, 1) := by decide +kernel
theorem dX3_init_16 : decode cX3_init 16 = .ok (.putfield 19, 3) := by decide +kernel
theorem dX3_init_19 : decode cX3_init 19 = .ok (.return_, 1) := by decide +kernel
theorem dX3_isBroken_0 : decode cX3_isBroken 0 = .ok (.iload_n 1, 1) := by decide +kernel
theorem dX3_isBroken_1 : decode cX3_isBroken 1 = .ok (.tableswitch 207 0 8 #[51, 65, 79, 93, 110, 128, 146, 163, 180], 51) := by decide +kernel
theorem dX3_isBroken_52 : decode cX3_isBroken 52 = .ok (.aload_n 0, 1) := by decide +kernel
theorem dX3_isBroken_53 : decode cX3_isBroken 53 = .ok (.aload_n 0, 1) := by decide +kernel
theorem dX3_isBroken_54 : decode cX3_isBroken 54 = .ok (.getfield 19, 3) := by decide +kernel
theorem dX3_isBroken_57 : decode cX3_isBroken 57 = .ok (.invokevirtual 23, 3) := by decide +kernel
theorem dX3_isBroken_60 : decode cX3_isBroken 60 = .ok (.iload_n 2, 1) := by decide +kernel
theorem dX3_isBroken_61 : decode cX3_isBroken 61 = .ok (.iload_n 3, 1) := by decide +kernel
theorem dX3_isBroken_62 : decode cX3_isBroken 62 = .ok (.invokevirtual 29, 3) := by decide +kernel
theorem dX3_isBroken_65 : decode cX3_isBroken 65 = .ok (.ireturn, 1) := by decide +kernel
theorem dX3_isBroken_66 : decode cX3_isBroken 66 = .ok (.aload_n 0, 1) := by decide +kernel
theorem dX3_isBroken_67 : decode cX3_isBroken 67 = .ok (.aload_n 0, 1) := by decide +kernel
theorem dX3_isBroken_68 : decode cX3_isBroken 68 = .ok (.getfield 19, 3) := by decide +kernel
theorem dX3_isBroken_71 : decode cX3_isBroken 71 = .ok (.invokevirtual 33, 3) := by decide +kernel
theorem dX3_isBroken_74 : decode cX3_isBroken 74 = .ok (.iload_n 2, 1) := by decide +kernel
theorem dX3_isBroken_75 : decode cX3_isBroken 75 = .ok (.iload_n 3, 1) := by decide +kernel
theorem dX3_isBroken_76 : decode cX3_isBroken 76 = .ok (.invokevirtual 29, 3) := by decide +kernel
theorem dX3_isBroken_79 : decode cX3_isBroken 79 = .ok (.ireturn, 1) := by decide +kernel
theorem dX3_isBroken_80 : decode cX3_isBroken 80 = .ok (.aload_n 0, 1) := by decide +kernel
theorem dX3_isBroken_81 : decode cX3_isBroken 81 = .ok (.aload_n 0, 1) := by decide +kernel
theorem dX3_isBroken_82 : decode cX3_isBroken 82 = .ok (.getfield 19, 3) := by decide +kernel
theorem dX3_isBroken_85 : decode cX3_isBroken 85 = .ok (.invokevirtual 36, 3) := by decide +kernel
theorem dX3_isBroken_88 : decode cX3_isBroken 88 = .ok (.iload_n 2, 1) := by decide +kernel
theorem dX3_isBroken_89 : decode cX3_isBroken 89 = .ok (.iload_n 3, 1) := by decide +kernel
theorem dX3_isBroken_90 : decode cX3_isBroken 90 = .ok (.invokevirtual 29, 3) := by decide +kernel
theorem dX3_isBroken_93 : decode cX3_isBroken 93 = .ok (.ireturn, 1) := by decide +kernel
theorem dX3_isBroken_94 : decode cX3_isBroken 94 = .ok (.aload_n 0, 1) := by decide +kernel
theorem dX3_isBroken_95 : decode cX3_isBroken 95 = .ok (.getfield 9, 3) := by decide +kernel
theorem dX3_isBroken_98 : decode cX3_isBroken 98 = .ok (.invokevirtual 39, 3) := by decide +kernel
theorem dX3_isBroken_101 : decode cX3_isBroken 101 = .ok (.iload_n 2, 1) := by decide +kernel
theorem dX3_isBroken_102 : decode cX3_isBroken 102 = .ok (.if_icmp .ge 7, 3) := by decide +kernel
theorem dX3_isBroken_105 : decode cX3_isBroken 105 = .ok (.iconst 1, 1) := by decide +kernel
theorem dX3_isBroken_106 : decode cX3_isBroken 106 = .ok (.goto 4, 3) := by decide +kernel
theorem dX3_isBroken_109 : decode cX3_isBroken 109 = .ok (.iconst 0, 1) := by decide +kernel
theorem dX3_isBroken_110 : decode cX3_isBroken 110 = .ok (.ireturn, 1) := by decide +kernel
theorem dX3_isBroken_111 : decode cX3_isBroken 111 = .ok (.aload_n 0, 1) := by decide +kernel
theorem dX3_isBroken_112 : decode cX3_isBroken 112 = .ok (.getfield 9, 3) := by decide +kernel
theorem dX3_isBroken_115 : decode cX3_isBroken 115 = .ok (.iconst 3, 1) := by decide +kernel
theorem dX3_isBroken_116 : decode cX3_isBroken 116 = .ok (.invokevirtual 44, 3) := by decide +kernel
theorem dX3_isBroken_119 : decode cX3_isBroken 119 = .ok (.iload_n 2, 1) := by decide +kernel
theorem dX3_isBroken_120 : decode cX3_isBroken 120 = .ok (.if_icmp .le 7, 3) := by decide +kernel
theorem dX3_isBroken_123 : decode cX3_isBroken 123 = .ok (.iconst 1, 1) := by decide +kernel
theorem dX3_isBroken_124 : decode cX3_isBroken 124 = .ok (.goto 4, 3) := by decide +kernel
theorem dX3_isBroken_127 : decode cX3_isBroken 127 = .ok (.iconst 0, 1) := by decide +kernel
theorem dX3_isBroken_128 : decode cX3_isBroken 128 = .ok (.ireturn, 1) := by decide +kernel
theorem dX3_isBroken_129 : decode cX3_isBroken 129 = .ok (.aload_n 0, 1) := by decide +kernel
theorem dX3_isBroken_130 : decode cX3_isBroken 130 = .ok (.getfield 9, 3) := by decide +kernel
theorem dX3_isBroken_133 : decode cX3_isBroken 133 = .ok (.iconst 2, 1) := by decide +kernel
theorem dX3_isBroken_134 : decode cX3_isBroken 134 = .ok (.invokevirtual 44, 3) := by decide +kernel
theorem dX3_isBroken_137 : decode cX3_isBroken 137 = .ok (.iload_n 2, 1) := by decide +kernel
theorem dX3_isBroken_138 : decode cX3_isBroken 138 = .ok (.if_icmp .le 7, 3) := by decide +kernel
theorem dX3_isBroken_141 : decode cX3_isBroken 141 = .ok (.iconst 1, 1) := by decide +kernel
theorem dX3_isBroken_142 : decode cX3_isBroken 142 = .ok (.goto 4, 3) := by decide +kernel
theorem dX3_isBroken_145 : decode cX3_isBroken 145 = .ok (.iconst 0, 1) := by decide +kernel
theorem dX3_isBroken_146 : decode cX3_isBroken 146 = .ok (.ireturn, 1) := by decide +kernel
theorem dX3_isBroken_147 : decode cX3_isBroken 147 = .ok (.aload_n 0, 1) := by decide +kernel
theorem dX3_isBroken_148 : decode cX3_isBroken 148 = .ok (.getfield 15, 3) := by decide +kernel
theorem dX3_isBroken_151 : decode cX3_isBroken 151 = .ok (.invokevirtual 48, 3) := by decide +kernel
theorem dX3_isBroken_154 : decode cX3_isBroken 154 = .ok (.iload_n 2, 1) := by decide +kernel
theorem dX3_isBroken_155 : decode cX3_isBroken 155 = .ok (.if_icmp .le 7, 3) := by decide +kernel
theorem dX3_isBroken_158 : decode cX3_isBroken 158 = .ok (.iconst 1, 1) := by decide +kernel
theorem dX3_isBroken_159 : decode cX3_isBroken 159 = .ok (.goto 4, 3) := by decide +kernel
theorem dX3_isBroken_162 : decode cX3_isBroken 162 = .ok (.iconst 0, 1) := by decide +kernel
theorem dX3_isBroken_163 : decode cX3_isBroken 163 = .ok (.ireturn, 1) := by decide +kernel
theorem dX3_isBroken_164 : decode cX3_isBroken 164 = .ok (.aload_n 0, 1) := by decide +kernel
theorem dX3_isBroken_165 : decode cX3_isBroken 165 = .ok (.getfield 15, 3) := by decide +kernel
theorem dX3_isBroken_168 : decode cX3_isBroken 168 = .ok (.invokevirtual 53, 3) := by decide +kernel
theorem dX3_isBroken_171 : decode cX3_isBroken 171 = .ok (.iload_n 2, 1) := by decide +kernel
theorem dX3_isBroken_172 : decode cX3_isBroken 172 = .ok (.if_icmp .le 7, 3) := by decide +kernel
theorem dX3_isBroken_175 : decode cX3_isBroken 175 = .ok (.iconst 1, 1) := by decide +kernel
theorem dX3_isBroken_176 : decode cX3_isBroken 176 = .ok (.goto 4, 3) := by decide +kernel
theorem dX3_isBroken_179 : decode cX3_isBroken 179 = .ok (.iconst 0, 1) := by decide +kernel
theorem dX3_isBroken_180 : decode cX3_isBroken 180 = .ok (.ireturn, 1) := by decide +kernel
theorem dX3_isBroken_181 : decode cX3_isBroken 181 = .ok (.aload_n 0, 1) := by decide +kernel
theorem dX3_isBroken_182 : decode cX3_isBroken 182 = .ok (.getfield 9, 3) := by decide +kernel
theorem dX3_isBroken_185 : decode cX3_isBroken 185 = .ok (.invokevirtual 56, 3) := by decide +kernel
theorem dX3_isBroken_188 : decode cX3_isBroken 188 = .ok (.iload_n 3, 1) := by decide +kernel
theorem dX3_isBroken_189 : decode cX3_isBroken 189 = .ok (.imul, 1) := by decide +kernel
theorem dX3_isBroken_190 : decode cX3_isBroken 190 = .ok (.iload_n 2, 1) := by decide +kernel
theorem dX3_isBroken_191 : decode cX3_isBroken 191 = .ok (.aload_n 0, 1) := by decide +kernel
theorem dX3_isBroken_192 : decode cX3_isBroken 192 = .ok (.getfield 9, 3) := by decide +kernel
theorem dX3_isBroken_195 : decode cX3_isBroken 195 = .ok (.invokevirtual 59, 3) := by decide +kernel
theorem dX3_isBroken_198 : decode cX3_isBroken 198 = .ok (.imul, 1) := by decide +kernel
theorem dX3_isBroken_199 : decode cX3_isBroken 199 = .ok (.if_icmp .ge 7, 3) := by decide +kernel
theorem dX3_isBroken_202 : decode cX3_isBroken 202 = .ok (.iconst 1, 1) := by decide +kernel
theorem dX3_isBroken_203 : decode cX3_isBroken 203 = .ok (.goto 4, 3) := by decide +kernel
theorem dX3_isBroken_206 : decode cX3_isBroken 206 = .ok (.iconst 0, 1) := by decide +kernel
theorem dX3_isBroken_207 : decode cX3_isBroken 207 = .ok (.ireturn, 1) := by decide +kernel
theorem dX3_isBroken_208 : decode cX3_isBroken 208 = .ok (.iconst 0, 1) := by decide +kernel
theorem dX3_isBroken_209 : decode cX3_isBroken 209 = .ok (.ireturn, 1) := by decide +kernel
theorem dX3_isOutside_0 : decode cX3_isOutside 0 = .ok (.aload_n 0, 1) := by decide +kernel
theorem dX3_isOutside_1 : decode cX3_isOutside 1 = .ok (.getfield 19, 3) := by decide +kernel
theorem dX3_isOutside_4 : decode cX3_isOutside 4 = .ok (.invokevirtual 62, 3) := by decide +kernel
theorem dX3_isOutside_7 : decode cX3_isOutside 7 = .ok (.istore 4, 2) := by decide +kernel
theorem dX3_isOutside_9 : decode cX3_isOutside 9 = .ok (.iload 4, 2) := by decide +kernel
theorem dX3_isOutside_11 : decode cX3_isOutside 11 = .ok (.ifCond .eq 19, 3) := by decide +kernel
theorem dX3_isOutside_14 : decode cX3_isOutside 14 = .ok (.iload_n 1, 1) := by decide +kernel
theorem dX3_isOutside_15 : decode cX3_isOutside 15 = .ok (.iload_n 2, 1) := by decide +kernel
theorem dX3_isOutside_16 : decode cX3_isOutside 16 = .ok (.iload 4, 2) := by decide +kernel
theorem dX3_isOutside_18 : decode cX3_isOutside 18 = .ok (.imul, 1) := by decide +kernel
theorem dX3_isOutside_19 : decode cX3_isOutside 19 = .ok (.if_icmp .lt 11, 3) := by decide +kernel
theorem dX3_isOutside_22 : decode cX3_isOutside 22 = .ok (.iload_n 1, 1) := by decide +kernel
theorem dX3_isOutside_23 : decode cX3_isOutside 23 = .ok (.iload_n 3, 1) := by decide +kernel
theorem dX3_isOutside_24 : decode cX3_isOutside 24 = .ok (.iload 4, 2) := by decide +kernel
theorem dX3_isOutside_26 : decode cX3_isOutside 26 = .ok (.imul, 1) := by decide +kernel
theorem dX3_isOutside_27 : decode cX3_isOutside 27 = .ok (.if_icmp .le 7, 3) := by decide +kernel
theorem dX3_isOutside_30 : decode cX3_isOutside 30 = .ok (.iconst 1, 1) := by decide +kernel
theorem dX3_isOutside_31 : decode cX3_isOutside 31 = .ok (.goto 4, 3) := by decide +kernel
theorem dX3_isOutside_34 : decode cX3_isOutside 34 = .ok (.iconst 0, 1) := by decide +kernel
theorem dX3_isOutside_35 : decode cX3_isOutside 35 = .ok (.ireturn, 1) := by decide +kernel
theorem dX4_init_0 : decode cX4_init 0 = .ok (.aload_n 0, 1) := by decide +kernel
theorem dX4_init_1 : decode cX4_init 1 = .ok (.invokespecial 3, 3) := by decide +kernel
theorem dX4_init_4 : decode cX4_init 4 = .ok (.aload_n 0, 1) := by decide +kernel
theorem dX4_init_5 : decode cX4_init 5 = .ok (.bipush 6, 2) := by decide +kernel
theorem dX4_init_7 : decode cX4_init 7 = .ok (.newarray .int, 2) := by decide +kernel
theorem dX4_init_9 : decode cX4_init 9 = .ok (.putfield 9, 3) := by decide +kernel
theorem dX4_init_12 : decode cX4_init 12 = .ok (.aload_n 0, 1) := by decide +kernel
theorem dX4_init_13 : decode cX4_init 13 = .ok (.bipush 6, 2) := by decide +kernel
theorem dX4_init_15 : decode cX4_init 15 = .ok (.newarray .int, 2) := by decide +kernel
theorem dX4_init_17 : decode cX4_init 17 = .ok (.putfield 15, 3) := by decide +kernel
theorem dX4_init_20 : decode cX4_init 20 = .ok (.aload_n 0, 1) := by decide +kernel
theorem dX4_init_21 : decode cX4_init 21 = .ok (.bipush 6, 2) := by decide +kernel
theorem dX4_init_23 : decode cX4_init 23 = .ok (.newarray .int, 2) := by decide +kernel
theorem dX4_init_25 : decode cX4_init 25 = .ok (.putfield 18, 3) := by decide +kernel
theorem dX4_init_28 : decode cX4_init 28 = .ok (.aload_n 0, 1) := by decide +kernel
theorem dX4_init_29 : decode cX4_init 29 = .ok (.bipush 6, 2) := by decide +kernel
theorem dX4_init_31 : decode cX4_init 31 = .ok (.newarray .int, 2) := by decide +kernel
theorem dX4_init_33 : decode cX4_init 33 = .ok (.putfield 21, 3) := by decide +kernel
theorem dX4_init_36 : decode cX4_init 36 = .ok (.aload_n 0, 1) := by decide +kernel
theorem dX4_init_37 : decode cX4_init 37 = .ok (.iconst 0, 1) := by decide +kernel
theorem dX4_init_38 : decode cX4_init 38 = .ok (.putfield 24, 3) := by decide +kernel
theorem dX4_init_41 : decode cX4_init 41 = .ok (.return_, 1) := by decide +kernel
theorem dX4_length_0 : decode cX4_length 0 = .ok (.aload_n 0, 1) := by decide +kernel
theorem dX4_length_1 : decode cX4_length 1 = .ok (.getfield 24, 3) := by decide +kernel
theorem dX4_length_4 : decode cX4_length 4 = .ok (.ireturn, 1) := by decide +kernel
theorem dX4_isFull_0 : decode cX4_isFull 0 = .ok (.aload_n 0, 1) := by decide +kernel
theorem dX4_isFull_1 : decode cX4_isFull 1 = .ok (.getfield 24, 3) := by decide +kernel
theorem dX4_isFull_4 : decode cX4_isFull 4 = .ok (.bipush 6, 2) := by decide +kernel
theorem dX4_isFull_6 : decode cX4_isFull 6 = .ok (.if_icmp .lt 7, 3) := by decide +kernel
theorem dX4_isFull_9 : decode cX4_isFull 9 = .ok (.iconst 1, 1) := by decide +kernel
theorem dX4_isFull_10 : decode cX4_isFull 10 = .ok (.goto 4, 3) := by decide +kernel
theorem dX4_isFull_13 : decode cX4_isFull 13 = .ok (.iconst 0, 1) := by decide +kernel
theorem dX4_isFull_14 : decode cX4_isFull 14 = .ok (.ireturn, 1) := by decide +kernel
theorem dX4_has_0 : decode cX4_has 0 = .ok (.iload_n 1, 1) := by decide +kernel
theorem dX4_has_1 : decode cX4_has 1 = .ok (.ifCond .lt 21, 3) := by decide +kernel
theorem dX4_has_4 : decode cX4_has 4 = .ok (.iload_n 1, 1) := by decide +kernel
theorem dX4_has_5 : decode cX4_has 5 = .ok (.aload_n 0, 1) := by decide +kernel
theorem dX4_has_6 : decode cX4_has 6 = .ok (.getfield 24, 3) := by decide +kernel
theorem dX4_has_9 : decode cX4_has 9 = .ok (.if_icmp .ge 13, 3) := by decide +kernel
theorem dX4_has_12 : decode cX4_has 12 = .ok (.iload_n 1, 1) := by decide +kernel
theorem dX4_has_13 : decode cX4_has 13 = .ok (.bipush 6, 2) := by decide +kernel
theorem dX4_has_15 : decode cX4_has 15 = .ok (.if_icmp .ge 7, 3) := by decide +kernel
theorem dX4_has_18 : decode cX4_has 18 = .ok (.iconst 1, 1) := by decide +kernel
theorem dX4_has_19 : decode cX4_has 19 = .ok (.goto 4, 3) := by decide +kernel
theorem dX4_has_22 : decode cX4_has 22 = .ok (.iconst 0, 1) := by decide +kernel
theorem dX4_has_23 : decode cX4_has 23 = .ok (.ireturn, 1) := by decide +kernel
theorem dX4_add_0 : decode cX4_add 0 = .ok (.aload_n 0, 1) := by decide +kernel
theorem dX4_add_1 : decode cX4_add 1 = .ok (.invokevirtual 28, 3) := by decide +kernel
theorem dX4_add_4 : decode cX4_add 4 = .ok (.ifCond .eq 5, 3) := by decide +kernel
theorem dX4_add_7 : decode cX4_add 7 = .ok (.iconst (-1), 1) := by decide +kernel
theorem dX4_add_8 : decode cX4_add 8 = .ok (.ireturn, 1) := by decide +kernel
theorem dX4_add_9 : decode cX4_add 9 = .ok (.aload_n 0, 1) := by decide +kernel
theorem dX4_add_10 : decode cX4_add 10 = .ok (.getfield 9, 3) := by decide +kernel
theorem dX4_add_13 : decode cX4_add 13 = .ok (.aload_n 0, 1) := by decide +kernel
theorem dX4_add_14 : decode cX4_add 14 = .ok (.getfield 24, 3) := by decide +kernel
theorem dX4_add_17 : decode cX4_add 17 = .ok (.iload_n 1, 1) := by decide +kernel
theorem dX4_add_18 : decode cX4_add 18 = .ok (.iastore, 1) := by decide +kernel
theorem dX4_add_19 : decode cX4_add 19 = .ok (.aload_n 0, 1) := by decide +kernel
theorem dX4_add_20 : decode cX4_add 20 = .ok (.getfield 15, 3) := by decide +kernel
theorem dX4_add_23 : decode cX4_add 23 = .ok (.aload_n 0, 1) := by decide +kernel
theorem dX4_add_24 : decode cX4_add 24 = .ok (.getfield 24, 3) := by decide +kernel
theorem dX4_add_27 : decode cX4_add 27 = .ok (.iload_n 2, 1) := by decide +kernel
theorem dX4_add_28 : decode cX4_add 28 = .ok (.iastore, 1) := by decide +kernel
theorem dX4_add_29 : decode cX4_add 29 = .ok (.aload_n 0, 1) := by decide +kernel
theorem dX4_add_30 : decode cX4_add 30 = .ok (.getfield 18, 3) := by decide +kernel
theorem dX4_add_33 : decode cX4_add 33 = .ok (.aload_n 0, 1) := by decide +kernel
theorem dX4_add_34 : decode cX4_add 34 = .ok (.getfield 24, 3) := by decide +kernel
theorem dX4_add_37 : decode cX4_add 37 = .ok (.iload_n 3, 1) := by decide +kernel
theorem dX4_add_38 : decode cX4_add 38 = .ok (.iastore, 1) := by decide +kernel
theorem dX4_add_39 : decode cX4_add 39 = .ok (.aload_n 0, 1) := by decide +kernel
theorem dX4_add_40 : decode cX4_add 40 = .ok (.getfield 21, 3) := by decide +kernel
theorem dX4_add_43 : decode cX4_add 43 = .ok (.aload_n 0, 1) := by decide +kernel
theorem dX4_add_44 : decode cX4_add 44 = .ok (.getfield 24, 3) := by decide +kernel
theorem dX4_add_47 : decode cX4_add 47 = .ok (.iload 4, 2) := by decide +kernel
theorem dX4_add_49 : decode cX4_add 49 = .ok (.iastore, 1) := by decide +kernel
theorem dX4_add_50 : decode cX4_add 50 = .ok (.aload_n 0, 1) := by decide +kernel
theorem dX4_add_51 : decode cX4_add 51 = .ok (.dup, 1) := by decide +kernel
theorem dX4_add_52 : decode cX4_add 52 = .ok (.getfield 24, 3) := by decide +kernel
theorem dX4_add_55 : decode cX4_add 55 = .ok (.iconst 1, 1) := by decide +kernel
theorem dX4_add_56 : decode cX4_add 56 = .ok (.iadd, 1) := by decide +kernel
theorem dX4_add_57 : decode cX4_add 57 = .ok (.putfield 24, 3) := by decide +kernel
theorem dX4_add_60 : decode cX4_add 60 = .ok (.aload_n 0, 1) := by decide +kernel
theorem dX4_add_61 : decode cX4_add 61 = .ok (.getfield 24, 3) := by decide +kernel
theorem dX4_add_64 : decode cX4_add 64 = .ok (.iconst 1, 1) := by decide +kernel
theorem dX4_add_65 : decode cX4_add 65 = .ok (.isub, 1) := by decide +kernel
theorem dX4_add_66 : decode cX4_add 66 = .ok (.ireturn, 1) := by decide +kernel
theorem dX4_tinAt_0 : decode cX4_tinAt 0 = .ok (.aload_n 0, 1) := by decide +kernel
theorem dX4_tinAt_1 : decode cX4_tinAt 1 = .ok (.iload_n 1, 1) := by decide +kernel
theorem dX4_tinAt_2 : decode cX4_tinAt 2 = .ok (.invokevirtual 32, 3) := by decide +kernel
theorem dX4_tinAt_5 : decode cX4_tinAt 5 = .ok (.ifCond .eq 12, 3) := by decide +kernel
theorem dX4_tinAt_8 : decode cX4_tinAt 8 = .ok (.aload_n 0, 1) := by decide +kernel
theorem dX4_tinAt_9 : decode cX4_tinAt 9 = .ok (.getfield 9, 3) := by decide +kernel
theorem dX4_tinAt_12 : decode cX4_tinAt 12 = .ok (.iload_n 1, 1) := by decide +kernel
theorem dX4_tinAt_13 : decode cX4_tinAt 13 = .ok (.iaload, 1) := by decide +kernel
theorem dX4_tinAt_14 : decode cX4_tinAt 14 = .ok (.goto 4, 3) := by decide +kernel
theorem dX4_tinAt_17 : decode cX4_tinAt 17 = .ok (.iconst 0, 1) := by decide +kernel
theorem dX4_tinAt_18 : decode cX4_tinAt 18 = .ok (.ireturn, 1) := by decide +kernel
theorem dX4_leadAt_0 : decode cX4_leadAt 0 = .ok (.aload_n 0, 1) := by decide +kernel
theorem dX4_leadAt_1 : decode cX4_leadAt 1 = .ok (.iload_n 1, 1) := by decide +kernel
theorem dX4_leadAt_2 : decode cX4_leadAt 2 = .ok (.invokevirtual 32, 3) := by decide +kernel
theorem dX4_leadAt_5 : decode cX4_leadAt 5 = .ok (.ifCond .eq 12, 3) := by decide +kernel
theorem dX4_leadAt_8 : decode cX4_leadAt 8 = .ok (.aload_n 0, 1) := by decide +kernel
theorem dX4_leadAt_9 : decode cX4_leadAt 9 = .ok (.getfield 15, 3) := by decide +kernel
theorem dX4_leadAt_12 : decode cX4_leadAt 12 = .ok (.iload_n 1, 1) := by decide +kernel
theorem dX4_leadAt_13 : decode cX4_leadAt 13 = .ok (.iaload, 1) := by decide +kernel
theorem dX4_leadAt_14 : decode cX4_leadAt 14 = .ok (.goto 4, 3) := by decide +kernel
theorem dX4_leadAt_17 : decode cX4_leadAt 17 = .ok (.iconst 0, 1) := by decide +kernel
theorem dX4_leadAt_18 : decode cX4_leadAt 18 = .ok (.ireturn, 1) := by decide +kernel
theorem dX4_priceAt_0 : decode cX4_priceAt 0 = .ok (.aload_n 0, 1) := by decide +kernel
theorem dX4_priceAt_1 : decode cX4_priceAt 1 = .ok (.iload_n 1, 1) := by decide +kernel
theorem dX4_priceAt_2 : decode cX4_priceAt 2 = .ok (.invokevirtual 32, 3) := by decide +kernel
theorem dX4_priceAt_5 : decode cX4_priceAt 5 = .ok (.ifCond .eq 12, 3) := by decide +kernel
theorem dX4_priceAt_8 : decode cX4_priceAt 8 = .ok (.aload_n 0, 1) := by decide +kernel
theorem dX4_priceAt_9 : decode cX4_priceAt 9 = .ok (.getfield 18, 3) := by decide +kernel
theorem dX4_priceAt_12 : decode cX4_priceAt 12 = .ok (.iload_n 1, 1) := by decide +kernel
theorem dX4_priceAt_13 : decode cX4_priceAt 13 = .ok (.iaload, 1) := by decide +kernel
theorem dX4_priceAt_14 : decode cX4_priceAt 14 = .ok (.goto 4, 3) := by decide +kernel
theorem dX4_priceAt_17 : decode cX4_priceAt 17 = .ok (.iconst 0, 1) := by decide +kernel
theorem dX4_priceAt_18 : decode cX4_priceAt 18 = .ok (.ireturn, 1) := by decide +kernel
theorem dX4_unitsAt_0 : decode cX4_unitsAt 0 = .ok (.aload_n 0, 1) := by decide +kernel
theorem dX4_unitsAt_1 : decode cX4_unitsAt 1 = .ok (.iload_n 1, 1) := by decide +kernel
theorem dX4_unitsAt_2 : decode cX4_unitsAt 2 = .ok (.invokevirtual 32, 3) := by decide +kernel
theorem dX4_unitsAt_5 : decode cX4_unitsAt 5 = .ok (.ifCond .eq 12, 3) := by decide +kernel
theorem dX4_unitsAt_8 : decode cX4_unitsAt 8 = .ok (.aload_n 0, 1) := by decide +kernel
theorem dX4_unitsAt_9 : decode cX4_unitsAt 9 = .ok (.getfield 21, 3) := by decide +kernel
theorem dX4_unitsAt_12 : decode cX4_unitsAt 12 = .ok (.iload_n 1, 1) := by decide +kernel
theorem dX4_unitsAt_13 : decode cX4_unitsAt 13 = .ok (.iaload, 1) := by decide +kernel
theorem dX4_unitsAt_14 : decode cX4_unitsAt 14 = .ok (.goto 4, 3) := by decide +kernel
theorem dX4_unitsAt_17 : decode cX4_unitsAt 17 = .ok (.iconst 0, 1) := by decide +kernel
theorem dX4_unitsAt_18 : decode cX4_unitsAt 18 = .ok (.ireturn, 1) := by decide +kernel
theorem dX4_take_0 : decode cX4_take 0 = .ok (.aload_n 0, 1) := by decide +kernel
theorem dX4_take_1 : decode cX4_take 1 = .ok (.iload_n 1, 1) := by decide +kernel
theorem dX4_take_2 : decode cX4_take 2 = .ok (.invokevirtual 32, 3) := by decide +kernel
theorem dX4_take_5 : decode cX4_take 5 = .ok (.ifCond .eq 13, 3) := by decide +kernel
theorem dX4_take_8 : decode cX4_take 8 = .ok (.aload_n 0, 1) := by decide +kernel
theorem dX4_take_9 : decode cX4_take 9 = .ok (.getfield 21, 3) := by decide +kernel
theorem dX4_take_12 : decode cX4_take 12 = .ok (.iload_n 1, 1) := by decide +kernel
theorem dX4_take_13 : decode cX4_take 13 = .ok (.dup2, 1) := by decide +kernel
theorem dX4_take_14 : decode cX4_take 14 = .ok (.iaload, 1) := by decide +kernel
theorem dX4_take_15 : decode cX4_take 15 = .ok (.iload_n 2, 1) := by decide +kernel
theorem dX4_take_16 : decode cX4_take 16 = .ok (.isub, 1) := by decide +kernel
theorem dX4_take_17 : decode cX4_take 17 = .ok (.iastore, 1) := by decide +kernel
theorem dX4_take_18 : decode cX4_take 18 = .ok (.return_, 1) := by decide +kernel
theorem dX5_init_0 : decode cX5_init 0 = .ok (.aload_n 0, 1) := by decide +kernel
theorem dX5_init_1 : decode cX5_init 1 = .ok (.invokespecial 3, 3) := by decide +kernel
theorem dX5_init_4 : decode cX5_init 4 = .ok (.aload_n 0, 1) := by decide +kernel
theorem dX5_init_5 : decode cX5_init 5 = .ok (.iconst 4, 1) := by decide +kernel
theorem dX5_init_6 : decode cX5_init 6 = .ok (.bipush 6, 2) := by decide +kernel
theorem dX5_init_8 : decode cX5_init 8 = .ok (.multianewarray 11 2, 4) := by decide +kernel
theorem dX5_init_12 : decode cX5_init 12 = .ok (.putfield 13, 3) := by decide +kernel
theorem dX5_init_15 : decode cX5_init 15 = .ok (.aload_n 0, 1) := by decide +kernel
theorem dX5_init_16 : decode cX5_init 16 = .ok (.iconst 4, 1) := by decide +kernel
theorem dX5_init_17 : decode cX5_init 17 = .ok (.sipush 287, 3) := by decide +kernel
theorem dX5_init_20 : decode cX5_init 20 = .ok (.multianewarray 11 2, 4) := by decide +kernel
theorem dX5_init_24 : decode cX5_init 24 = .ok (.putfield 16, 3) := by decide +kernel
theorem dX5_init_27 : decode cX5_init 27 = .ok (.aload_n 0, 1) := by decide +kernel
theorem dX5_init_28 : decode cX5_init 28 = .ok (.iconst 4, 1) := by decide +kernel
theorem dX5_init_29 : decode cX5_init 29 = .ok (.bipush 7, 2) := by decide +kernel
theorem dX5_init_31 : decode cX5_init 31 = .ok (.multianewarray 11 2, 4) := by decide +kernel
theorem dX5_init_35 : decode cX5_init 35 = .ok (.putfield 19, 3) := by decide +kernel
theorem dX5_init_38 : decode cX5_init 38 = .ok (.aload_n 0, 1) := by decide +kernel
theorem dX5_init_39 : decode cX5_init 39 = .ok (.iconst 4, 1) := by decide +kernel
theorem dX5_init_40 : decode cX5_init 40 = .ok (.newarray .int, 2) := by decide +kernel
theorem dX5_init_42 : decode cX5_init 42 = .ok (.putfield 22, 3) := by decide +kernel
theorem dX5_init_45 : decode cX5_init 45 = .ok (.aload_n 0, 1) := by decide +kernel
theorem dX5_init_46 : decode cX5_init 46 = .ok (.bipush 7, 2) := by decide +kernel
theorem dX5_init_48 : decode cX5_init 48 = .ok (.newarray .int, 2) := by decide +kernel
theorem dX5_init_50 : decode cX5_init 50 = .ok (.putfield 26, 3) := by decide +kernel
theorem dX5_init_53 : decode cX5_init 53 = .ok (.aload_n 0, 1) := by decide +kernel
theorem dX5_init_54 : decode cX5_init 54 = .ok (.bipush 6, 2) := by decide +kernel
theorem dX5_init_56 : decode cX5_init 56 = .ok (.newarray .int, 2) := by decide +kernel
theorem dX5_init_58 : decode cX5_init 58 = .ok (.putfield 29, 3) := by decide +kernel
theorem dX5_init_61 : decode cX5_init 61 = .ok (.aload_n 0, 1) := by decide +kernel
theorem dX5_init_62 : decode cX5_init 62 = .ok (.bipush 6, 2) := by decide +kernel
theorem dX5_init_64 : decode cX5_init 64 = .ok (.newarray .int, 2) := by decide +kernel
theorem dX5_init_66 : decode cX5_init 66 = .ok (.putfield 32, 3) := by decide +kernel
theorem dX5_init_69 : decode cX5_init 69 = .ok (.aload_n 0, 1) := by decide +kernel
theorem dX5_init_70 : decode cX5_init 70 = .ok (.iconst 1, 1) := by decide +kernel
theorem dX5_init_71 : decode cX5_init 71 = .ok (.putfield 35, 3) := by decide +kernel
theorem dX5_init_74 : decode cX5_init 74 = .ok (.aload_n 0, 1) := by decide +kernel
theorem dX5_init_75 : decode cX5_init 75 = .ok (.iconst 0, 1) := by decide +kernel
theorem dX5_init_76 : decode cX5_init 76 = .ok (.putfield 39, 3) := by decide +kernel
theorem dX5_init_79 : decode cX5_init 79 = .ok (.aload_n 0, 1) := by decide +kernel
theorem dX5_init_80 : decode cX5_init 80 = .ok (.iconst 0, 1) := by decide +kernel
theorem dX5_init_81 : decode cX5_init 81 = .ok (.putfield 42, 3) := by decide +kernel
theorem dX5_init_84 : decode cX5_init 84 = .ok (.aload_n 0, 1) := by decide +kernel
theorem dX5_init_85 : decode cX5_init 85 = .ok (.iconst 0, 1) := by decide +kernel
theorem dX5_init_86 : decode cX5_init 86 = .ok (.putfield 45, 3) := by decide +kernel
theorem dX5_init_89 : decode cX5_init 89 = .ok (.aload_n 0, 1) := by decide +kernel
theorem dX5_init_90 : decode cX5_init 90 = .ok (.aload_n 1, 1) := by decide +kernel
theorem dX5_init_91 : decode cX5_init 91 = .ok (.putfield 49, 3) := by decide +kernel
theorem dX5_init_94 : decode cX5_init 94 = .ok (.return_, 1) := by decide +kernel
theorem dX5_find_0 : decode cX5_find 0 = .ok (.aload_n 0, 1) := by decide +kernel
theorem dX5_find_1 : decode cX5_find 1 = .ok (.iconst 0, 1) := by decide +kernel
theorem dX5_find_2 : decode cX5_find 2 = .ok (.putfield 45, 3) := by decide +kernel
theorem dX5_find_5 : decode cX5_find 5 = .ok (.aload_n 0, 1) := by decide +kernel
theorem dX5_find_6 : decode cX5_find 6 = .ok (.getfield 22, 3) := by decide +kernel
theorem dX5_find_9 : decode cX5_find 9 = .ok (.iconst 0, 1) := by decide +kernel
theorem dX5_find_10 : decode cX5_find 10 = .ok (.iload_n 1, 1) := by decide +kernel
theorem dX5_find_11 : decode cX5_find 11 = .ok (.sipush 1000, 3) := by decide +kernel
theorem dX5_find_14 : decode cX5_find 14 = .ok (.imul, 1) := by decide +kernel
theorem dX5_find_15 : decode cX5_find 15 = .ok (.iastore, 1) := by decide +kernel
theorem dX5_find_16 : decode cX5_find 16 = .ok (.aload_n 0, 1) := by decide +kernel
theorem dX5_find_17 : decode cX5_find 17 = .ok (.getfield 22, 3) := by decide +kernel
theorem dX5_find_20 : decode cX5_find 20 = .ok (.iconst 1, 1) := by decide +kernel
theorem dX5_find_21 : decode cX5_find 21 = .ok (.iload_n 1, 1) := by decide +kernel
theorem dX5_find_22 : decode cX5_find 22 = .ok (.iload_n 3, 1) := by decide +kernel
theorem dX5_find_23 : decode cX5_find 23 = .ok (.imul, 1) := by decide +kernel
theorem dX5_find_24 : decode cX5_find 24 = .ok (.iastore, 1) := by decide +kernel
theorem dX5_find_25 : decode cX5_find 25 = .ok (.aload_n 0, 1) := by decide +kernel
theorem dX5_find_26 : decode cX5_find 26 = .ok (.getfield 22, 3) := by decide +kernel
theorem dX5_find_29 : decode cX5_find 29 = .ok (.iconst 2, 1) := by decide +kernel
theorem dX5_find_30 : decode cX5_find 30 = .ok (.iload_n 1, 1) := by decide +kernel
theorem dX5_find_31 : decode cX5_find 31 = .ok (.sipush 1000, 3) := by decide +kernel
theorem dX5_find_34 : decode cX5_find 34 = .ok (.iload_n 2, 1) := by decide +kernel
theorem dX5_find_35 : decode cX5_find 35 = .ok (.isub, 1) := by decide +kernel
theorem dX5_find_36 : decode cX5_find 36 = .ok (.imul, 1) := by decide +kernel
theorem dX5_find_37 : decode cX5_find 37 = .ok (.iastore, 1) := by decide +kernel
theorem dX5_find_38 : decode cX5_find 38 = .ok (.aload_n 0, 1) := by decide +kernel
theorem dX5_find_39 : decode cX5_find 39 = .ok (.getfield 22, 3) := by decide +kernel
theorem dX5_find_42 : decode cX5_find 42 = .ok (.iconst 3, 1) := by decide +kernel
theorem dX5_find_43 : decode cX5_find 43 = .ok (.iload_n 1, 1) := by decide +kernel
theorem dX5_find_44 : decode cX5_find 44 = .ok (.iload 4, 2) := by decide +kernel
theorem dX5_find_46 : decode cX5_find 46 = .ok (.imul, 1) := by decide +kernel
theorem dX5_find_47 : decode cX5_find 47 = .ok (.iastore, 1) := by decide +kernel
theorem dX5_find_48 : decode cX5_find 48 = .ok (.aload_n 0, 1) := by decide +kernel
theorem dX5_find_49 : decode cX5_find 49 = .ok (.aload_n 0, 1) := by decide +kernel
theorem dX5_find_50 : decode cX5_find 50 = .ok (.invokevirtual 53, 3) := by decide +kernel
theorem dX5_find_53 : decode cX5_find 53 = .ok (.putfield 35, 3) := by decide +kernel
theorem dX5_find_56 : decode cX5_find 56 = .ok (.aload_n 0, 1) := by decide +kernel
theorem dX5_find_57 : decode cX5_find 57 = .ok (.invokevirtual 57, 3) := by decide +kernel
theorem dX5_find_60 : decode cX5_find 60 = .ok (.aload_n 0, 1) := by decide +kernel
theorem dX5_find_61 : decode cX5_find 61 = .ok (.iload_n 1, 1) := by decide +kernel
theorem dX5_find_62 : decode cX5_find 62 = .ok (.invokevirtual 60, 3) := by decide +kernel
theorem dX5_find_65 : decode cX5_find 65 = .ok (.aload_n 0, 1) := by decide +kernel
theorem dX5_find_66 : decode cX5_find 66 = .ok (.iconst 0, 1) := by decide +kernel
theorem dX5_find_67 : decode cX5_find 67 = .ok (.iload_n 1, 1) := by decide +kernel
theorem dX5_find_68 : decode cX5_find 68 = .ok (.invokevirtual 64, 3) := by decide +kernel
theorem dX5_find_71 : decode cX5_find 71 = .ok (.aload_n 0, 1) := by decide +kernel
theorem dX5_find_72 : decode cX5_find 72 = .ok (.getfield 45, 3) := by decide +kernel
theorem dX5_find_75 : decode cX5_find 75 = .ok (.ireturn, 1) := by decide +kernel
theorem dX5_price_0 : decode cX5_price 0 = .ok (.aload_n 0, 1) := by decide +kernel
theorem dX5_price_1 : decode cX5_price 1 = .ok (.getfield 22, 3) := by decide +kernel
theorem dX5_price_4 : decode cX5_price 4 = .ok (.iconst 0, 1) := by decide +kernel
theorem dX5_price_5 : decode cX5_price 5 = .ok (.iaload, 1) := by decide +kernel
theorem dX5_price_6 : decode cX5_price 6 = .ok (.iconst 1, 1) := by decide +kernel
theorem dX5_price_7 : decode cX5_price 7 = .ok (.iadd, 1) := by decide +kernel
theorem dX5_price_8 : decode cX5_price 8 = .ok (.ireturn, 1) := by decide +kernel
theorem dX5_unitsOf_0 : decode cX5_unitsOf 0 = .ok (.iload_n 1, 1) := by decide +kernel
theorem dX5_unitsOf_1 : decode cX5_unitsOf 1 = .ok (.ifCond .lt 18, 3) := by decide +kernel
theorem dX5_unitsOf_4 : decode cX5_unitsOf 4 = .ok (.iload_n 1, 1) := by decide +kernel
theorem dX5_unitsOf_5 : decode cX5_unitsOf 5 = .ok (.bipush 6, 2) := by decide +kernel
theorem dX5_unitsOf_7 : decode cX5_unitsOf 7 = .ok (.if_icmp .ge 12, 3) := by decide +kernel
theorem dX5_unitsOf_10 : decode cX5_unitsOf 10 = .ok (.aload_n 0, 1) := by decide +kernel
theorem dX5_unitsOf_11 : decode cX5_unitsOf 11 = .ok (.getfield 32, 3) := by decide +kernel
theorem dX5_unitsOf_14 : decode cX5_unitsOf 14 = .ok (.iload_n 1, 1) := by decide +kernel
theorem dX5_unitsOf_15 : decode cX5_unitsOf 15 = .ok (.iaload, 1) := by decide +kernel
theorem dX5_unitsOf_16 : decode cX5_unitsOf 16 = .ok (.goto 4, 3) := by decide +kernel
theorem dX5_unitsOf_19 : decode cX5_unitsOf 19 = .ok (.iconst 0, 1) := by decide +kernel
theorem dX5_unitsOf_20 : decode cX5_unitsOf 20 = .ok (.ireturn, 1) := by decide +kernel
theorem dX5_lastOfLots_0 : decode cX5_lastOfLots 0 = .ok (.aload_n 0, 1) := by decide +kernel
theorem dX5_lastOfLots_1 : decode cX5_lastOfLots 1 = .ok (.getfield 49, 3) := by decide +kernel
theorem dX5_lastOfLots_4 : decode cX5_lastOfLots 4 = .ok (.invokevirtual 68, 3) := by decide +kernel
theorem dX5_lastOfLots_7 : decode cX5_lastOfLots 7 = .ok (.iconst 1, 1) := by decide +kernel
theorem dX5_lastOfLots_8 : decode cX5_lastOfLots 8 = .ok (.isub, 1) := by decide +kernel
theorem dX5_lastOfLots_9 : decode cX5_lastOfLots 9 = .ok (.iconst 1, 1) := by decide +kernel
theorem dX5_lastOfLots_10 : decode cX5_lastOfLots 10 = .ok (.invokestatic 73, 3) := by decide +kernel
theorem dX5_lastOfLots_13 : decode cX5_lastOfLots 13 = .ok (.iconst 5, 1) := by decide +kernel
theorem dX5_lastOfLots_14 : decode cX5_lastOfLots 14 = .ok (.invokestatic 79, 3) := by decide +kernel
theorem dX5_lastOfLots_17 : decode cX5_lastOfLots 17 = .ok (.ireturn, 1) := by decide +kernel
theorem dX5_weigh_0 : decode cX5_weigh 0 = .ok (.iconst 0, 1) := by decide +kernel
theorem dX5_weigh_1 : decode cX5_weigh 1 = .ok (.istore_n 1, 1) := by decide +kernel
theorem dX5_weigh_2 : decode cX5_weigh 2 = .ok (.iload_n 1, 1) := by decide +kernel
theorem dX5_weigh_3 : decode cX5_weigh 3 = .ok (.bipush 6, 2) := by decide +kernel
theorem dX5_weigh_5 : decode cX5_weigh 5 = .ok (.if_icmp .ge 77, 3) := by decide +kernel
theorem dX5_weigh_8 : decode cX5_weigh 8 = .ok (.aload_n 0, 1) := by decide +kernel
theorem dX5_weigh_9 : decode cX5_weigh 9 = .ok (.getfield 13, 3) := by decide +kernel
theorem dX5_weigh_12 : decode cX5_weigh 12 = .ok (.iconst 0, 1) := by decide +kernel
theorem dX5_weigh_13 : decode cX5_weigh 13 = .ok (.aaload, 1) := by decide +kernel
theorem dX5_weigh_14 : decode cX5_weigh 14 = .ok (.iload_n 1, 1) := by decide +kernel
theorem dX5_weigh_15 : decode cX5_weigh 15 = .ok (.aload_n 0, 1) := by decide +kernel
theorem dX5_weigh_16 : decode cX5_weigh 16 = .ok (.getfield 49, 3) := by decide +kernel
theorem dX5_weigh_19 : decode cX5_weigh 19 = .ok (.iload_n 1, 1) := by decide +kernel
theorem dX5_weigh_20 : decode cX5_weigh 20 = .ok (.invokevirtual 82, 3) := by decide +kernel
theorem dX5_weigh_23 : decode cX5_weigh 23 = .ok (.iastore, 1) := by decide +kernel
theorem dX5_weigh_24 : decode cX5_weigh 24 = .ok (.aload_n 0, 1) := by decide +kernel
theorem dX5_weigh_25 : decode cX5_weigh 25 = .ok (.getfield 13, 3) := by decide +kernel
theorem dX5_weigh_28 : decode cX5_weigh 28 = .ok (.iconst 1, 1) := by decide +kernel
theorem dX5_weigh_29 : decode cX5_weigh 29 = .ok (.aaload, 1) := by decide +kernel
theorem dX5_weigh_30 : decode cX5_weigh 30 = .ok (.iload_n 1, 1) := by decide +kernel
theorem dX5_weigh_31 : decode cX5_weigh 31 = .ok (.aload_n 0, 1) := by decide +kernel
theorem dX5_weigh_32 : decode cX5_weigh 32 = .ok (.getfield 49, 3) := by decide +kernel
theorem dX5_weigh_35 : decode cX5_weigh 35 = .ok (.iload_n 1, 1) := by decide +kernel
theorem dX5_weigh_36 : decode cX5_weigh 36 = .ok (.invokevirtual 86, 3) := by decide +kernel
theorem dX5_weigh_39 : decode cX5_weigh 39 = .ok (.iastore, 1) := by decide +kernel
theorem dX5_weigh_40 : decode cX5_weigh 40 = .ok (.aload_n 0, 1) := by decide +kernel
theorem dX5_weigh_41 : decode cX5_weigh 41 = .ok (.getfield 13, 3) := by decide +kernel
theorem dX5_weigh_44 : decode cX5_weigh 44 = .ok (.iconst 2, 1) := by decide +kernel
theorem dX5_weigh_45 : decode cX5_weigh 45 = .ok (.aaload, 1) := by decide +kernel
theorem dX5_weigh_46 : decode cX5_weigh 46 = .ok (.iload_n 1, 1) := by decide +kernel
theorem dX5_weigh_47 : decode cX5_weigh 47 = .ok (.sipush 1000, 3) := by decide +kernel
theorem dX5_weigh_50 : decode cX5_weigh 50 = .ok (.aload_n 0, 1) := by decide +kernel
theorem dX5_weigh_51 : decode cX5_weigh 51 = .ok (.getfield 49, 3) := by decide +kernel
theorem dX5_weigh_54 : decode cX5_weigh 54 = .ok (.iload_n 1, 1) := by decide +kernel
theorem dX5_weigh_55 : decode cX5_weigh 55 = .ok (.invokevirtual 86, 3) := by decide +kernel
theorem dX5_weigh_58 : decode cX5_weigh 58 = .ok (.isub, 1) := by decide +kernel
theorem dX5_weigh_59 : decode cX5_weigh 59 = .ok (.iastore, 1) := by decide +kernel
theorem dX5_weigh_60 : decode cX5_weigh 60 = .ok (.aload_n 0, 1) := by decide +kernel
theorem dX5_weigh_61 : decode cX5_weigh 61 = .ok (.getfield 13, 3) := by decide +kernel
theorem dX5_weigh_64 : decode cX5_weigh 64 = .ok (.iconst 3, 1) := by decide +kernel
theorem dX5_weigh_65 : decode cX5_weigh 65 = .ok (.aaload, 1) := by decide +kernel
theorem dX5_weigh_66 : decode cX5_weigh 66 = .ok (.iload_n 1, 1) := by decide +kernel
theorem dX5_weigh_67 : decode cX5_weigh 67 = .ok (.aload_n 0, 1) := by decide +kernel
theorem dX5_weigh_68 : decode cX5_weigh 68 = .ok (.getfield 49, 3) := by decide +kernel
theorem dX5_weigh_71 : decode cX5_weigh 71 = .ok (.iload_n 1, 1) := by decide +kernel
theorem dX5_weigh_72 : decode cX5_weigh 72 = .ok (.invokevirtual 89, 3) := by decide +kernel
theorem dX5_weigh_75 : decode cX5_weigh 75 = .ok (.iastore, 1) := by decide +kernel
theorem dX5_weigh_76 : decode cX5_weigh 76 = .ok (.iinc 1 1, 3) := by decide +kernel
theorem dX5_weigh_79 : decode cX5_weigh 79 = .ok (.goto (-77), 3) := by decide +kernel
theorem dX5_weigh_82 : decode cX5_weigh 82 = .ok (.return_, 1) := by decide +kernel
theorem dX5_foresee_0 : decode cX5_foresee 0 = .ok (.aload_n 0, 1) := by decide +kernel
theorem dX5_foresee_1 : decode cX5_foresee 1 = .ok (.getfield 26, 3) := by decide +kernel
theorem dX5_foresee_4 : decode cX5_foresee 4 = .ok (.aload_n 0, 1) := by decide +kernel
theorem dX5_foresee_5 : decode cX5_foresee 5 = .ok (.getfield 35, 3) := by decide +kernel
theorem dX5_foresee_8 : decode cX5_foresee 8 = .ok (.iconst 1, 1) := by decide +kernel
theorem dX5_foresee_9 : decode cX5_foresee 9 = .ok (.iadd, 1) := by decide +kernel
theorem dX5_foresee_10 : decode cX5_foresee 10 = .ok (.iconst 0, 1) := by decide +kernel
theorem dX5_foresee_11 : decode cX5_foresee 11 = .ok (.iastore, 1) := by decide +kernel
theorem dX5_foresee_12 : decode cX5_foresee 12 = .ok (.aload_n 0, 1) := by decide +kernel
theorem dX5_foresee_13 : decode cX5_foresee 13 = .ok (.getfield 35, 3) := by decide +kernel
theorem dX5_foresee_16 : decode cX5_foresee 16 = .ok (.istore_n 2, 1) := by decide +kernel
theorem dX5_foresee_17 : decode cX5_foresee 17 = .ok (.iload_n 2, 1) := by decide +kernel
theorem dX5_foresee_18 : decode cX5_foresee 18 = .ok (.ifCond .lt 52, 3) := by decide +kernel
theorem dX5_foresee_21 : decode cX5_foresee 21 = .ok (.aload_n 0, 1) := by decide +kernel
theorem dX5_foresee_22 : decode cX5_foresee 22 = .ok (.getfield 26, 3) := by decide +kernel
theorem dX5_foresee_25 : decode cX5_foresee 25 = .ok (.iload_n 2, 1) := by decide +kernel
theorem dX5_foresee_26 : decode cX5_foresee 26 = .ok (.aload_n 0, 1) := by decide +kernel
theorem dX5_foresee_27 : decode cX5_foresee 27 = .ok (.getfield 26, 3) := by decide +kernel
theorem dX5_foresee_30 : decode cX5_foresee 30 = .ok (.iload_n 2, 1) := by decide +kernel
theorem dX5_foresee_31 : decode cX5_foresee 31 = .ok (.iconst 1, 1) := by decide +kernel
theorem dX5_foresee_32 : decode cX5_foresee 32 = .ok (.iadd, 1) := by decide +kernel
theorem dX5_foresee_33 : decode cX5_foresee 33 = .ok (.iaload, 1) := by decide +kernel
theorem dX5_foresee_34 : decode cX5_foresee 34 = .ok (.aload_n 0, 1) := by decide +kernel
theorem dX5_foresee_35 : decode cX5_foresee 35 = .ok (.getfield 49, 3) := by decide +kernel
theorem dX5_foresee_38 : decode cX5_foresee 38 = .ok (.iload_n 2, 1) := by decide +kernel
theorem dX5_foresee_39 : decode cX5_foresee 39 = .ok (.invokevirtual 92, 3) := by decide +kernel
theorem dX5_foresee_42 : decode cX5_foresee 42 = .ok (.iadd, 1) := by decide +kernel
theorem dX5_foresee_43 : decode cX5_foresee 43 = .ok (.iastore, 1) := by decide +kernel
theorem dX5_foresee_44 : decode cX5_foresee 44 = .ok (.iconst 0, 1) := by decide +kernel
theorem dX5_foresee_45 : decode cX5_foresee 45 = .ok (.istore_n 3, 1) := by decide +kernel
theorem dX5_foresee_46 : decode cX5_foresee 46 = .ok (.iload_n 3, 1) := by decide +kernel
theorem dX5_foresee_47 : decode cX5_foresee 47 = .ok (.iconst 4, 1) := by decide +kernel
theorem dX5_foresee_48 : decode cX5_foresee 48 = .ok (.if_icmp .ge 16, 3) := by decide +kernel
theorem dX5_foresee_51 : decode cX5_foresee 51 = .ok (.aload_n 0, 1) := by decide +kernel
theorem dX5_foresee_52 : decode cX5_foresee 52 = .ok (.iload_n 2, 1) := by decide +kernel
theorem dX5_foresee_53 : decode cX5_foresee 53 = .ok (.iload_n 3, 1) := by decide +kernel
theorem dX5_foresee_54 : decode cX5_foresee 54 = .ok (.iload_n 1, 1) := by decide +kernel
theorem dX5_foresee_55 : decode cX5_foresee 55 = .ok (.invokevirtual 95, 3) := by decide +kernel
theorem dX5_foresee_58 : decode cX5_foresee 58 = .ok (.iinc 3 1, 3) := by decide +kernel
theorem dX5_foresee_61 : decode cX5_foresee 61 = .ok (.goto (-15), 3) := by decide +kernel
theorem dX5_foresee_64 : decode cX5_foresee 64 = .ok (.iinc 2 (-1), 3) := by decide +kernel
theorem dX5_foresee_67 : decode cX5_foresee 67 = .ok (.goto (-50), 3) := by decide +kernel
theorem dX5_foresee_70 : decode cX5_foresee 70 = .ok (.return_, 1) := by decide +kernel
theorem dX5_foreseeFrom_0 : decode cX5_foreseeFrom 0 = .ok (.aload_n 0, 1) := by decide +kernel
theorem dX5_foreseeFrom_1 : decode cX5_foreseeFrom 1 = .ok (.getfield 16, 3) := by decide +kernel
theorem dX5_foreseeFrom_4 : decode cX5_foreseeFrom 4 = .ok (.iload_n 2, 1) := by decide +kernel
theorem dX5_foreseeFrom_5 : decode cX5_foreseeFrom 5 = .ok (.aaload, 1) := by decide +kernel
theorem dX5_foreseeFrom_6 : decode cX5_foreseeFrom 6 = .ok (.astore 4, 2) := by decide +kernel
theorem dX5_foreseeFrom_8 : decode cX5_foreseeFrom 8 = .ok (.iload_n 1, 1) := by decide +kernel
theorem dX5_foreseeFrom_9 : decode cX5_foreseeFrom 9 = .ok (.bipush 41, 2) := by decide +kernel
theorem dX5_foreseeFrom_11 : decode cX5_foreseeFrom 11 = .ok (.imul, 1) := by decide +kernel
theorem dX5_foreseeFrom_12 : decode cX5_foreseeFrom 12 = .ok (.istore 5, 2) := by decide +kernel
theorem dX5_foreseeFrom_14 : decode cX5_foreseeFrom 14 = .ok (.iload_n 1, 1) := by decide +kernel
theorem dX5_foreseeFrom_15 : decode cX5_foreseeFrom 15 = .ok (.iconst 1, 1) := by decide +kernel
theorem dX5_foreseeFrom_16 : decode cX5_foreseeFrom 16 = .ok (.iadd, 1) := by decide +kernel
theorem dX5_foreseeFrom_17 : decode cX5_foreseeFrom 17 = .ok (.bipush 41, 2) := by decide +kernel
theorem dX5_foreseeFrom_19 : decode cX5_foreseeFrom 19 = .ok (.imul, 1) := by decide +kernel
theorem dX5_foreseeFrom_20 : decode cX5_foreseeFrom 20 = .ok (.istore 6, 2) := by decide +kernel
theorem dX5_foreseeFrom_22 : decode cX5_foreseeFrom 22 = .ok (.iconst 0, 1) := by decide +kernel
theorem dX5_foreseeFrom_23 : decode cX5_foreseeFrom 23 = .ok (.istore 7, 2) := by decide +kernel
theorem dX5_foreseeFrom_25 : decode cX5_foreseeFrom 25 = .ok (.aload 4, 2) := by decide +kernel
theorem dX5_foreseeFrom_27 : decode cX5_foreseeFrom 27 = .ok (.iload 5, 2) := by decide +kernel
theorem dX5_foreseeFrom_29 : decode cX5_foreseeFrom 29 = .ok (.iconst 0, 1) := by decide +kernel
theorem dX5_foreseeFrom_30 : decode cX5_foreseeFrom 30 = .ok (.iastore, 1) := by decide +kernel
theorem dX5_foreseeFrom_31 : decode cX5_foreseeFrom 31 = .ok (.iconst 0, 1) := by decide +kernel
theorem dX5_foreseeFrom_32 : decode cX5_foreseeFrom 32 = .ok (.istore 8, 2) := by decide +kernel
theorem dX5_foreseeFrom_34 : decode cX5_foreseeFrom 34 = .ok (.iload 8, 2) := by decide +kernel
theorem dX5_foreseeFrom_36 : decode cX5_foreseeFrom 36 = .ok (.iload_n 3, 1) := by decide +kernel
theorem dX5_foreseeFrom_37 : decode cX5_foreseeFrom 37 = .ok (.if_icmp .ge 166, 3) := by decide +kernel
theorem dX5_foreseeFrom_40 : decode cX5_foreseeFrom 40 = .ok (.iload 8, 2) := by decide +kernel
theorem dX5_foreseeFrom_42 : decode cX5_foreseeFrom 42 = .ok (.aload_n 0, 1) := by decide +kernel
theorem dX5_foreseeFrom_43 : decode cX5_foreseeFrom 43 = .ok (.getfield 26, 3) := by decide +kernel
theorem dX5_foreseeFrom_46 : decode cX5_foreseeFrom 46 = .ok (.iload_n 1, 1) := by decide +kernel
theorem dX5_foreseeFrom_47 : decode cX5_foreseeFrom 47 = .ok (.iaload, 1) := by decide +kernel
theorem dX5_foreseeFrom_48 : decode cX5_foreseeFrom 48 = .ok (.if_icmp .ge 155, 3) := by decide +kernel
theorem dX5_foreseeFrom_51 : decode cX5_foreseeFrom 51 = .ok (.iload 8, 2) := by decide +kernel
theorem dX5_foreseeFrom_53 : decode cX5_foreseeFrom 53 = .ok (.iload 7, 2) := by decide +kernel
theorem dX5_foreseeFrom_55 : decode cX5_foreseeFrom 55 = .ok (.isub, 1) := by decide +kernel
theorem dX5_foreseeFrom_56 : decode cX5_foreseeFrom 56 = .ok (.istore 9, 2) := by decide +kernel
theorem dX5_foreseeFrom_58 : decode cX5_foreseeFrom 58 = .ok (.iload 7, 2) := by decide +kernel
theorem dX5_foreseeFrom_60 : decode cX5_foreseeFrom 60 = .ok (.aload_n 0, 1) := by decide +kernel
theorem dX5_foreseeFrom_61 : decode cX5_foreseeFrom 61 = .ok (.getfield 49, 3) := by decide +kernel
theorem dX5_foreseeFrom_64 : decode cX5_foreseeFrom 64 = .ok (.iload_n 1, 1) := by decide +kernel
theorem dX5_foreseeFrom_65 : decode cX5_foreseeFrom 65 = .ok (.invokevirtual 92, 3) := by decide +kernel
theorem dX5_foreseeFrom_68 : decode cX5_foreseeFrom 68 = .ok (.if_icmp .ge 46, 3) := by decide +kernel
theorem dX5_foreseeFrom_71 : decode cX5_foreseeFrom 71 = .ok (.iload 9, 2) := by decide +kernel
theorem dX5_foreseeFrom_73 : decode cX5_foreseeFrom 73 = .ok (.aload_n 0, 1) := by decide +kernel
theorem dX5_foreseeFrom_74 : decode cX5_foreseeFrom 74 = .ok (.getfield 26, 3) := by decide +kernel
theorem dX5_foreseeFrom_77 : decode cX5_foreseeFrom 77 = .ok (.iload_n 1, 1) := by decide +kernel
theorem dX5_foreseeFrom_78 : decode cX5_foreseeFrom 78 = .ok (.iconst 1, 1) := by decide +kernel
theorem dX5_foreseeFrom_79 : decode cX5_foreseeFrom 79 = .ok (.iadd, 1) := by decide +kernel
theorem dX5_foreseeFrom_80 : decode cX5_foreseeFrom 80 = .ok (.iaload, 1) := by decide +kernel
theorem dX5_foreseeFrom_81 : decode cX5_foreseeFrom 81 = .ok (.if_icmp .ge 37, 3) := by decide +kernel
theorem dX5_foreseeFrom_84 : decode cX5_foreseeFrom 84 = .ok (.aload 4, 2) := by decide +kernel
theorem dX5_foreseeFrom_86 : decode cX5_foreseeFrom 86 = .ok (.iload 6, 2) := by decide +kernel
theorem dX5_foreseeFrom_88 : decode cX5_foreseeFrom 88 = .ok (.iload 9, 2) := by decide +kernel
theorem dX5_foreseeFrom_90 : decode cX5_foreseeFrom 90 = .ok (.iadd, 1) := by decide +kernel
theorem dX5_foreseeFrom_91 : decode cX5_foreseeFrom 91 = .ok (.iconst 1, 1) := by decide +kernel
theorem dX5_foreseeFrom_92 : decode cX5_foreseeFrom 92 = .ok (.iadd, 1) := by decide +kernel
theorem dX5_foreseeFrom_93 : decode cX5_foreseeFrom 93 = .ok (.iaload, 1) := by decide +kernel
theorem dX5_foreseeFrom_94 : decode cX5_foreseeFrom 94 = .ok (.aload 4, 2) := by decide +kernel
theorem dX5_foreseeFrom_96 : decode cX5_foreseeFrom 96 = .ok (.iload 6, 2) := by decide +kernel
theorem dX5_foreseeFrom_98 : decode cX5_foreseeFrom 98 = .ok (.iload 9, 2) := by decide +kernel
theorem dX5_foreseeFrom_100 : decode cX5_foreseeFrom 100 = .ok (.iadd, 1) := by decide +kernel
theorem dX5_foreseeFrom_101 : decode cX5_foreseeFrom 101 = .ok (.iaload, 1) := by decide +kernel
theorem dX5_foreseeFrom_102 : decode cX5_foreseeFrom 102 = .ok (.isub, 1) := by decide +kernel
theorem dX5_foreseeFrom_103 : decode cX5_foreseeFrom 103 = .ok (.aload_n 0, 1) := by decide +kernel
theorem dX5_foreseeFrom_104 : decode cX5_foreseeFrom 104 = .ok (.getfield 13, 3) := by decide +kernel
theorem dX5_foreseeFrom_107 : decode cX5_foreseeFrom 107 = .ok (.iload_n 2, 1) := by decide +kernel
theorem dX5_foreseeFrom_108 : decode cX5_foreseeFrom 108 = .ok (.aaload, 1) := by decide +kernel
theorem dX5_foreseeFrom_109 : decode cX5_foreseeFrom 109 = .ok (.iload_n 1, 1) := by decide +kernel
theorem dX5_foreseeFrom_110 : decode cX5_foreseeFrom 110 = .ok (.iaload, 1) := by decide +kernel
theorem dX5_foreseeFrom_111 : decode cX5_foreseeFrom 111 = .ok (.if_icmp .ge 7, 3) := by decide +kernel
theorem dX5_foreseeFrom_114 : decode cX5_foreseeFrom 114 = .ok (.iconst 1, 1) := by decide +kernel
theorem dX5_foreseeFrom_115 : decode cX5_foreseeFrom 115 = .ok (.goto 4, 3) := by decide +kernel
theorem dX5_foreseeFrom_118 : decode cX5_foreseeFrom 118 = .ok (.iconst 0, 1) := by decide +kernel
theorem dX5_foreseeFrom_119 : decode cX5_foreseeFrom 119 = .ok (.istore 10, 2) := by decide +kernel
theorem dX5_foreseeFrom_121 : decode cX5_foreseeFrom 121 = .ok (.iload 10, 2) := by decide +kernel
theorem dX5_foreseeFrom_123 : decode cX5_foreseeFrom 123 = .ok (.ifCond .eq 44, 3) := by decide +kernel
theorem dX5_foreseeFrom_126 : decode cX5_foreseeFrom 126 = .ok (.aload 4, 2) := by decide +kernel
theorem dX5_foreseeFrom_128 : decode cX5_foreseeFrom 128 = .ok (.iload 5, 2) := by decide +kernel
theorem dX5_foreseeFrom_130 : decode cX5_foreseeFrom 130 = .ok (.iload 8, 2) := by decide +kernel
theorem dX5_foreseeFrom_132 : decode cX5_foreseeFrom 132 = .ok (.iadd, 1) := by decide +kernel
theorem dX5_foreseeFrom_133 : decode cX5_foreseeFrom 133 = .ok (.iconst 1, 1) := by decide +kernel
theorem dX5_foreseeFrom_134 : decode cX5_foreseeFrom 134 = .ok (.iadd, 1) := by decide +kernel
theorem dX5_foreseeFrom_135 : decode cX5_foreseeFrom 135 = .ok (.aload 4, 2) := by decide +kernel
theorem dX5_foreseeFrom_137 : decode cX5_foreseeFrom 137 = .ok (.iload 5, 2) := by decide +kernel
theorem dX5_foreseeFrom_139 : decode cX5_foreseeFrom 139 = .ok (.iload 8, 2) := by decide +kernel
theorem dX5_foreseeFrom_141 : decode cX5_foreseeFrom 141 = .ok (.iadd, 1) := by decide +kernel
theorem dX5_foreseeFrom_142 : decode cX5_foreseeFrom 142 = .ok (.iaload, 1) := by decide +kernel
theorem dX5_foreseeFrom_143 : decode cX5_foreseeFrom 143 = .ok (.aload 4, 2) := by decide +kernel
theorem dX5_foreseeFrom_145 : decode cX5_foreseeFrom 145 = .ok (.iload 6, 2) := by decide +kernel
theorem dX5_foreseeFrom_147 : decode cX5_foreseeFrom 147 = .ok (.iload 9, 2) := by decide +kernel
theorem dX5_foreseeFrom_149 : decode cX5_foreseeFrom 149 = .ok (.iadd, 1) := by decide +kernel
theorem dX5_foreseeFrom_150 : decode cX5_foreseeFrom 150 = .ok (.iconst 1, 1) := by decide +kernel
theorem dX5_foreseeFrom_151 : decode cX5_foreseeFrom 151 = .ok (.iadd, 1) := by decide +kernel
theorem dX5_foreseeFrom_152 : decode cX5_foreseeFrom 152 = .ok (.iaload, 1) := by decide +kernel
theorem dX5_foreseeFrom_153 : decode cX5_foreseeFrom 153 = .ok (.iadd, 1) := by decide +kernel
theorem dX5_foreseeFrom_154 : decode cX5_foreseeFrom 154 = .ok (.aload 4, 2) := by decide +kernel
theorem dX5_foreseeFrom_156 : decode cX5_foreseeFrom 156 = .ok (.iload 6, 2) := by decide +kernel
theorem dX5_foreseeFrom_158 : decode cX5_foreseeFrom 158 = .ok (.iload 9, 2) := by decide +kernel
theorem dX5_foreseeFrom_160 : decode cX5_foreseeFrom 160 = .ok (.iadd, 1) := by decide +kernel
theorem dX5_foreseeFrom_161 : decode cX5_foreseeFrom 161 = .ok (.iaload, 1) := by decide +kernel
theorem dX5_foreseeFrom_162 : decode cX5_foreseeFrom 162 = .ok (.isub, 1) := by decide +kernel
theorem dX5_foreseeFrom_163 : decode cX5_foreseeFrom 163 = .ok (.iastore, 1) := by decide +kernel
theorem dX5_foreseeFrom_164 : decode cX5_foreseeFrom 164 = .ok (.goto 33, 3) := by decide +kernel
theorem dX5_foreseeFrom_167 : decode cX5_foreseeFrom 167 = .ok (.aload 4, 2) := by decide +kernel
theorem dX5_foreseeFrom_169 : decode cX5_foreseeFrom 169 = .ok (.iload 5, 2) := by decide +kernel
theorem dX5_foreseeFrom_171 : decode cX5_foreseeFrom 171 = .ok (.iload 8, 2) := by decide +kernel
theorem dX5_foreseeFrom_173 : decode cX5_foreseeFrom 173 = .ok (.iadd, 1) := by decide +kernel
theorem dX5_foreseeFrom_174 : decode cX5_foreseeFrom 174 = .ok (.iconst 1, 1) := by decide +kernel
theorem dX5_foreseeFrom_175 : decode cX5_foreseeFrom 175 = .ok (.iadd, 1) := by decide +kernel
theorem dX5_foreseeFrom_176 : decode cX5_foreseeFrom 176 = .ok (.aload 4, 2) := by decide +kernel
theorem dX5_foreseeFrom_178 : decode cX5_foreseeFrom 178 = .ok (.iload 5, 2) := by decide +kernel
theorem dX5_foreseeFrom_180 : decode cX5_foreseeFrom 180 = .ok (.iload 8, 2) := by decide +kernel
theorem dX5_foreseeFrom_182 : decode cX5_foreseeFrom 182 = .ok (.iadd, 1) := by decide +kernel
theorem dX5_foreseeFrom_183 : decode cX5_foreseeFrom 183 = .ok (.iaload, 1) := by decide +kernel
theorem dX5_foreseeFrom_184 : decode cX5_foreseeFrom 184 = .ok (.aload_n 0, 1) := by decide +kernel
theorem dX5_foreseeFrom_185 : decode cX5_foreseeFrom 185 = .ok (.getfield 13, 3) := by decide +kernel
theorem dX5_foreseeFrom_188 : decode cX5_foreseeFrom 188 = .ok (.iload_n 2, 1) := by decide +kernel
theorem dX5_foreseeFrom_189 : decode cX5_foreseeFrom 189 = .ok (.aaload, 1) := by decide +kernel
theorem dX5_foreseeFrom_190 : decode cX5_foreseeFrom 190 = .ok (.iload_n 1, 1) := by decide +kernel
theorem dX5_foreseeFrom_191 : decode cX5_foreseeFrom 191 = .ok (.iaload, 1) := by decide +kernel
theorem dX5_foreseeFrom_192 : decode cX5_foreseeFrom 192 = .ok (.iadd, 1) := by decide +kernel
theorem dX5_foreseeFrom_193 : decode cX5_foreseeFrom 193 = .ok (.iastore, 1) := by decide +kernel
theorem dX5_foreseeFrom_194 : decode cX5_foreseeFrom 194 = .ok (.iinc 7 1, 3) := by decide +kernel
theorem dX5_foreseeFrom_197 : decode cX5_foreseeFrom 197 = .ok (.iinc 8 1, 3) := by decide +kernel
theorem dX5_foreseeFrom_200 : decode cX5_foreseeFrom 200 = .ok (.goto (-166), 3) := by decide +kernel
theorem dX5_foreseeFrom_203 : decode cX5_foreseeFrom 203 = .ok (.return_, 1) := by decide +kernel
theorem dX5_search_0 : decode cX5_search 0 = .ok (.iload_n 1, 1) := by decide +kernel
theorem dX5_search_1 : decode cX5_search 1 = .ok (.aload_n 0, 1) := by decide +kernel
theorem dX5_search_2 : decode cX5_search 2 = .ok (.getfield 35, 3) := by decide +kernel
theorem dX5_search_5 : decode cX5_search 5 = .ok (.iconst 1, 1) := by decide +kernel
theorem dX5_search_6 : decode cX5_search 6 = .ok (.isub, 1) := by decide +kernel
theorem dX5_search_7 : decode cX5_search 7 = .ok (.if_icmp .lt 9, 3) := by decide +kernel
theorem dX5_search_10 : decode cX5_search 10 = .ok (.aload_n 0, 1) := by decide +kernel
theorem dX5_search_11 : decode cX5_search 11 = .ok (.iload_n 2, 1) := by decide +kernel
theorem dX5_search_12 : decode cX5_search 12 = .ok (.invokevirtual 99, 3) := by decide +kernel
theorem dX5_search_15 : decode cX5_search 15 = .ok (.return_, 1) := by decide +kernel
theorem dX5_search_16 : decode cX5_search 16 = .ok (.iload_n 2, 1) := by decide +kernel
theorem dX5_search_17 : decode cX5_search 17 = .ok (.aload_n 0, 1) := by decide +kernel
theorem dX5_search_18 : decode cX5_search 18 = .ok (.getfield 49, 3) := by decide +kernel
theorem dX5_search_21 : decode cX5_search 21 = .ok (.iload_n 1, 1) := by decide +kernel
theorem dX5_search_22 : decode cX5_search 22 = .ok (.invokevirtual 92, 3) := by decide +kernel
theorem dX5_search_25 : decode cX5_search 25 = .ok (.invokestatic 79, 3) := by decide +kernel
theorem dX5_search_28 : decode cX5_search 28 = .ok (.istore_n 3, 1) := by decide +kernel
theorem dX5_search_29 : decode cX5_search 29 = .ok (.iconst 0, 1) := by decide +kernel
theorem dX5_search_30 : decode cX5_search 30 = .ok (.iload_n 2, 1) := by decide +kernel
theorem dX5_search_31 : decode cX5_search 31 = .ok (.aload_n 0, 1) := by decide +kernel
theorem dX5_search_32 : decode cX5_search 32 = .ok (.getfield 26, 3) := by decide +kernel
theorem dX5_search_35 : decode cX5_search 35 = .ok (.iload_n 1, 1) := by decide +kernel
theorem dX5_search_36 : decode cX5_search 36 = .ok (.iconst 1, 1) := by decide +kernel
theorem dX5_search_37 : decode cX5_search 37 = .ok (.iadd, 1) := by decide +kernel
theorem dX5_search_38 : decode cX5_search 38 = .ok (.iaload, 1) := by decide +kernel
theorem dX5_search_39 : decode cX5_search 39 = .ok (.isub, 1) := by decide +kernel
theorem dX5_search_40 : decode cX5_search 40 = .ok (.invokestatic 73, 3) := by decide +kernel
theorem dX5_search_43 : decode cX5_search 43 = .ok (.istore 4, 2) := by decide +kernel
theorem dX5_search_45 : decode cX5_search 45 = .ok (.iload 4, 2) := by decide +kernel
theorem dX5_search_47 : decode cX5_search 47 = .ok (.iload_n 3, 1) := by decide +kernel
theorem dX5_search_48 : decode cX5_search 48 = .ok (.if_icmp .gt 20, 3) := by decide +kernel
theorem dX5_search_51 : decode cX5_search 51 = .ok (.aload_n 0, 1) := by decide +kernel
theorem dX5_search_52 : decode cX5_search 52 = .ok (.iload_n 1, 1) := by decide +kernel
theorem dX5_search_53 : decode cX5_search 53 = .ok (.iload 4, 2) := by decide +kernel
theorem dX5_search_55 : decode cX5_search 55 = .ok (.iload_n 2, 1) := by decide +kernel
theorem dX5_search_56 : decode cX5_search 56 = .ok (.iload 4, 2) := by decide +kernel
theorem dX5_search_58 : decode cX5_search 58 = .ok (.isub, 1) := by decide +kernel
theorem dX5_search_59 : decode cX5_search 59 = .ok (.invokevirtual 102, 3) := by decide +kernel
theorem dX5_search_62 : decode cX5_search 62 = .ok (.iinc 4 1, 3) := by decide +kernel
theorem dX5_search_65 : decode cX5_search 65 = .ok (.goto (-20), 3) := by decide +kernel
theorem dX5_search_68 : decode cX5_search 68 = .ok (.return_, 1) := by decide +kernel
theorem dX5_goOn_0 : decode cX5_goOn 0 = .ok (.aload_n 0, 1) := by decide +kernel
theorem dX5_goOn_1 : decode cX5_goOn 1 = .ok (.iload_n 1, 1) := by decide +kernel
theorem dX5_goOn_2 : decode cX5_goOn 2 = .ok (.iload_n 2, 1) := by decide +kernel
theorem dX5_goOn_3 : decode cX5_goOn 3 = .ok (.iload_n 3, 1) := by decide +kernel
theorem dX5_goOn_4 : decode cX5_goOn 4 = .ok (.invokevirtual 105, 3) := by decide +kernel
theorem dX5_goOn_7 : decode cX5_goOn 7 = .ok (.ifCond .eq 18, 3) := by decide +kernel
theorem dX5_goOn_10 : decode cX5_goOn 10 = .ok (.aload_n 0, 1) := by decide +kernel
theorem dX5_goOn_11 : decode cX5_goOn 11 = .ok (.getfield 29, 3) := by decide +kernel
theorem dX5_goOn_14 : decode cX5_goOn 14 = .ok (.iload_n 1, 1) := by decide +kernel
theorem dX5_goOn_15 : decode cX5_goOn 15 = .ok (.iload_n 2, 1) := by decide +kernel
theorem dX5_goOn_16 : decode cX5_goOn 16 = .ok (.iastore, 1) := by decide +kernel
theorem dX5_goOn_17 : decode cX5_goOn 17 = .ok (.aload_n 0, 1) := by decide +kernel
theorem dX5_goOn_18 : decode cX5_goOn 18 = .ok (.iload_n 1, 1) := by decide +kernel
theorem dX5_goOn_19 : decode cX5_goOn 19 = .ok (.iconst 1, 1) := by decide +kernel
theorem dX5_goOn_20 : decode cX5_goOn 20 = .ok (.iadd, 1) := by decide +kernel
theorem dX5_goOn_21 : decode cX5_goOn 21 = .ok (.iload_n 3, 1) := by decide +kernel
theorem dX5_goOn_22 : decode cX5_goOn 22 = .ok (.invokevirtual 64, 3) := by decide +kernel
theorem dX5_goOn_25 : decode cX5_goOn 25 = .ok (.return_, 1) := by decide +kernel
theorem dX5_staysBelow_0 : decode cX5_staysBelow 0 = .ok (.iconst 0, 1) := by decide +kernel
theorem dX5_staysBelow_1 : decode cX5_staysBelow 1 = .ok (.istore 4, 2) := by decide +kernel
theorem dX5_staysBelow_3 : decode cX5_staysBelow 3 = .ok (.iload 4, 2) := by decide +kernel
theorem dX5_staysBelow_5 : decode cX5_staysBelow 5 = .ok (.iconst 4, 1) := by decide +kernel
theorem dX5_staysBelow_6 : decode cX5_staysBelow 6 = .ok (.if_icmp .ge 76, 3) := by decide +kernel
theorem dX5_staysBelow_9 : decode cX5_staysBelow 9 = .ok (.aload_n 0, 1) := by decide +kernel
theorem dX5_staysBelow_10 : decode cX5_staysBelow 10 = .ok (.getfield 19, 3) := by decide +kernel
theorem dX5_staysBelow_13 : decode cX5_staysBelow 13 = .ok (.iload 4, 2) := by decide +kernel
theorem dX5_staysBelow_15 : decode cX5_staysBelow 15 = .ok (.aaload, 1) := by decide +kernel
theorem dX5_staysBelow_16 : decode cX5_staysBelow 16 = .ok (.iload_n 1, 1) := by decide +kernel
theorem dX5_staysBelow_17 : decode cX5_staysBelow 17 = .ok (.iaload, 1) := by decide +kernel
theorem dX5_staysBelow_18 : decode cX5_staysBelow 18 = .ok (.iload_n 2, 1) := by decide +kernel
theorem dX5_staysBelow_19 : decode cX5_staysBelow 19 = .ok (.aload_n 0, 1) := by decide +kernel
theorem dX5_staysBelow_20 : decode cX5_staysBelow 20 = .ok (.getfield 13, 3) := by decide +kernel
theorem dX5_staysBelow_23 : decode cX5_staysBelow 23 = .ok (.iload 4, 2) := by decide +kernel
theorem dX5_staysBelow_25 : decode cX5_staysBelow 25 = .ok (.aaload, 1) := by decide +kernel
theorem dX5_staysBelow_26 : decode cX5_staysBelow 26 = .ok (.iload_n 1, 1) := by decide +kernel
theorem dX5_staysBelow_27 : decode cX5_staysBelow 27 = .ok (.iaload, 1) := by decide +kernel
theorem dX5_staysBelow_28 : decode cX5_staysBelow 28 = .ok (.imul, 1) := by decide +kernel
theorem dX5_staysBelow_29 : decode cX5_staysBelow 29 = .ok (.iadd, 1) := by decide +kernel
theorem dX5_staysBelow_30 : decode cX5_staysBelow 30 = .ok (.istore 5, 2) := by decide +kernel
theorem dX5_staysBelow_32 : decode cX5_staysBelow 32 = .ok (.iload 5, 2) := by decide +kernel
theorem dX5_staysBelow_34 : decode cX5_staysBelow 34 = .ok (.aload_n 0, 1) := by decide +kernel
theorem dX5_staysBelow_35 : decode cX5_staysBelow 35 = .ok (.getfield 16, 3) := by decide +kernel
theorem dX5_staysBelow_38 : decode cX5_staysBelow 38 = .ok (.iload 4, 2) := by decide +kernel
theorem dX5_staysBelow_40 : decode cX5_staysBelow 40 = .ok (.aaload, 1) := by decide +kernel
theorem dX5_staysBelow_41 : decode cX5_staysBelow 41 = .ok (.iload_n 1, 1) := by decide +kernel
theorem dX5_staysBelow_42 : decode cX5_staysBelow 42 = .ok (.iconst 1, 1) := by decide +kernel
theorem dX5_staysBelow_43 : decode cX5_staysBelow 43 = .ok (.iadd, 1) := by decide +kernel
theorem dX5_staysBelow_44 : decode cX5_staysBelow 44 = .ok (.bipush 41, 2) := by decide +kernel
theorem dX5_staysBelow_46 : decode cX5_staysBelow 46 = .ok (.imul, 1) := by decide +kernel
theorem dX5_staysBelow_47 : decode cX5_staysBelow 47 = .ok (.iload_n 3, 1) := by decide +kernel
theorem dX5_staysBelow_48 : decode cX5_staysBelow 48 = .ok (.iadd, 1) := by decide +kernel
theorem dX5_staysBelow_49 : decode cX5_staysBelow 49 = .ok (.iaload, 1) := by decide +kernel
theorem dX5_staysBelow_50 : decode cX5_staysBelow 50 = .ok (.iadd, 1) := by decide +kernel
theorem dX5_staysBelow_51 : decode cX5_staysBelow 51 = .ok (.aload_n 0, 1) := by decide +kernel
theorem dX5_staysBelow_52 : decode cX5_staysBelow 52 = .ok (.getfield 22, 3) := by decide +kernel
theorem dX5_staysBelow_55 : decode cX5_staysBelow 55 = .ok (.iload 4, 2) := by decide +kernel
theorem dX5_staysBelow_57 : decode cX5_staysBelow 57 = .ok (.iaload, 1) := by decide +kernel
theorem dX5_staysBelow_58 : decode cX5_staysBelow 58 = .ok (.if_icmp .le 5, 3) := by decide +kernel
theorem dX5_staysBelow_61 : decode cX5_staysBelow 61 = .ok (.iconst 0, 1) := by decide +kernel
theorem dX5_staysBelow_62 : decode cX5_staysBelow 62 = .ok (.ireturn, 1) := by decide +kernel
theorem dX5_staysBelow_63 : decode cX5_staysBelow 63 = .ok (.aload_n 0, 1) := by decide +kernel
theorem dX5_staysBelow_64 : decode cX5_staysBelow 64 = .ok (.getfield 19, 3) := by decide +kernel
theorem dX5_staysBelow_67 : decode cX5_staysBelow 67 = .ok (.iload 4, 2) := by decide +kernel
theorem dX5_staysBelow_69 : decode cX5_staysBelow 69 = .ok (.aaload, 1) := by decide +kernel
theorem dX5_staysBelow_70 : decode cX5_staysBelow 70 = .ok (.iload_n 1, 1) := by decide +kernel
theorem dX5_staysBelow_71 : decode cX5_staysBelow 71 = .ok (.iconst 1, 1) := by decide +kernel
theorem dX5_staysBelow_72 : decode cX5_staysBelow 72 = .ok (.iadd, 1) := by decide +kernel
theorem dX5_staysBelow_73 : decode cX5_staysBelow 73 = .ok (.iload 5, 2) := by decide +kernel
theorem dX5_staysBelow_75 : decode cX5_staysBelow 75 = .ok (.iastore, 1) := by decide +kernel
theorem dX5_staysBelow_76 : decode cX5_staysBelow 76 = .ok (.iinc 4 1, 3) := by decide +kernel
theorem dX5_staysBelow_79 : decode cX5_staysBelow 79 = .ok (.goto (-76), 3) := by decide +kernel
theorem dX5_staysBelow_82 : decode cX5_staysBelow 82 = .ok (.iconst 1, 1) := by decide +kernel
theorem dX5_staysBelow_83 : decode cX5_staysBelow 83 = .ok (.ireturn, 1) := by decide +kernel
theorem dX5_shareOut_0 : decode cX5_shareOut 0 = .ok (.aload_n 0, 1) := by decide +kernel
theorem dX5_shareOut_1 : decode cX5_shareOut 1 = .ok (.getfield 35, 3) := by decide +kernel
theorem dX5_shareOut_4 : decode cX5_shareOut 4 = .ok (.iconst 1, 1) := by decide +kernel
theorem dX5_shareOut_5 : decode cX5_shareOut 5 = .ok (.isub, 1) := by decide +kernel
theorem dX5_shareOut_6 : decode cX5_shareOut 6 = .ok (.istore_n 2, 1) := by decide +kernel
theorem dX5_shareOut_7 : decode cX5_shareOut 7 = .ok (.aload_n 0, 1) := by decide +kernel
theorem dX5_shareOut_8 : decode cX5_shareOut 8 = .ok (.iconst 0, 1) := by decide +kernel
theorem dX5_shareOut_9 : decode cX5_shareOut 9 = .ok (.iload_n 1, 1) := by decide +kernel
theorem dX5_shareOut_10 : decode cX5_shareOut 10 = .ok (.aload_n 0, 1) := by decide +kernel
theorem dX5_shareOut_11 : decode cX5_shareOut 11 = .ok (.getfield 49, 3) := by decide +kernel
theorem dX5_shareOut_14 : decode cX5_shareOut 14 = .ok (.aload_n 0, 1) := by decide +kernel
theorem dX5_shareOut_15 : decode cX5_shareOut 15 = .ok (.getfield 35, 3) := by decide +kernel
theorem dX5_shareOut_18 : decode cX5_shareOut 18 = .ok (.invokevirtual 92, 3) := by decide +kernel
theorem dX5_shareOut_21 : decode cX5_shareOut 21 = .ok (.isub, 1) := by decide +kernel
theorem dX5_shareOut_22 : decode cX5_shareOut 22 = .ok (.invokestatic 73, 3) := by decide +kernel
theorem dX5_shareOut_25 : decode cX5_shareOut 25 = .ok (.putfield 39, 3) := by decide +kernel
theorem dX5_shareOut_28 : decode cX5_shareOut 28 = .ok (.aload_n 0, 1) := by decide +kernel
theorem dX5_shareOut_29 : decode cX5_shareOut 29 = .ok (.iload_n 1, 1) := by decide +kernel
theorem dX5_shareOut_30 : decode cX5_shareOut 30 = .ok (.aload_n 0, 1) := by decide +kernel
theorem dX5_shareOut_31 : decode cX5_shareOut 31 = .ok (.getfield 49, 3) := by decide +kernel
theorem dX5_shareOut_34 : decode cX5_shareOut 34 = .ok (.iload_n 2, 1) := by decide +kernel
theorem dX5_shareOut_35 : decode cX5_shareOut 35 = .ok (.invokevirtual 92, 3) := by decide +kernel
theorem dX5_shareOut_38 : decode cX5_shareOut 38 = .ok (.invokestatic 79, 3) := by decide +kernel
theorem dX5_shareOut_41 : decode cX5_shareOut 41 = .ok (.putfield 42, 3) := by decide +kernel
theorem dX5_shareOut_44 : decode cX5_shareOut 44 = .ok (.iconst 0, 1) := by decide +kernel
theorem dX5_shareOut_45 : decode cX5_shareOut 45 = .ok (.istore_n 3, 1) := by decide +kernel
theorem dX5_shareOut_46 : decode cX5_shareOut 46 = .ok (.iload_n 3, 1) := by decide +kernel
theorem dX5_shareOut_47 : decode cX5_shareOut 47 = .ok (.iconst 4, 1) := by decide +kernel
theorem dX5_shareOut_48 : decode cX5_shareOut 48 = .ok (.if_icmp .ge 16, 3) := by decide +kernel
theorem dX5_shareOut_51 : decode cX5_shareOut 51 = .ok (.aload_n 0, 1) := by decide +kernel
theorem dX5_shareOut_52 : decode cX5_shareOut 52 = .ok (.iload_n 3, 1) := by decide +kernel
theorem dX5_shareOut_53 : decode cX5_shareOut 53 = .ok (.iload_n 2, 1) := by decide +kernel
theorem dX5_shareOut_54 : decode cX5_shareOut 54 = .ok (.iload_n 1, 1) := by decide +kernel
theorem dX5_shareOut_55 : decode cX5_shareOut 55 = .ok (.invokevirtual 109, 3) := by decide +kernel
theorem dX5_shareOut_58 : decode cX5_shareOut 58 = .ok (.iinc 3 1, 3) := by decide +kernel
theorem dX5_shareOut_61 : decode cX5_shareOut 61 = .ok (.goto (-15), 3) := by decide +kernel
theorem dX5_shareOut_64 : decode cX5_shareOut 64 = .ok (.aload_n 0, 1) := by decide +kernel
theorem dX5_shareOut_65 : decode cX5_shareOut 65 = .ok (.getfield 39, 3) := by decide +kernel
theorem dX5_shareOut_68 : decode cX5_shareOut 68 = .ok (.aload_n 0, 1) := by decide +kernel
theorem dX5_shareOut_69 : decode cX5_shareOut 69 = .ok (.getfield 42, 3) := by decide +kernel
theorem dX5_shareOut_72 : decode cX5_shareOut 72 = .ok (.if_icmp .le 4, 3) := by decide +kernel
theorem dX5_shareOut_75 : decode cX5_shareOut 75 = .ok (.return_, 1) := by decide +kernel
theorem dX5_shareOut_76 : decode cX5_shareOut 76 = .ok (.aload_n 0, 1) := by decide +kernel
theorem dX5_shareOut_77 : decode cX5_shareOut 77 = .ok (.getfield 29, 3) := by decide +kernel
theorem dX5_shareOut_80 : decode cX5_shareOut 80 = .ok (.iload_n 2, 1) := by decide +kernel
theorem dX5_shareOut_81 : decode cX5_shareOut 81 = .ok (.aload_n 0, 1) := by decide +kernel
theorem dX5_shareOut_82 : decode cX5_shareOut 82 = .ok (.getfield 13, 3) := by decide +kernel
theorem dX5_shareOut_85 : decode cX5_shareOut 85 = .ok (.iconst 0, 1) := by decide +kernel
theorem dX5_shareOut_86 : decode cX5_shareOut 86 = .ok (.aaload, 1) := by decide +kernel
theorem dX5_shareOut_87 : decode cX5_shareOut 87 = .ok (.iload_n 2, 1) := by decide +kernel
theorem dX5_shareOut_88 : decode cX5_shareOut 88 = .ok (.iaload, 1) := by decide +kernel
theorem dX5_shareOut_89 : decode cX5_shareOut 89 = .ok (.aload_n 0, 1) := by decide +kernel
theorem dX5_shareOut_90 : decode cX5_shareOut 90 = .ok (.getfield 13, 3) := by decide +kernel
theorem dX5_shareOut_93 : decode cX5_shareOut 93 = .ok (.iconst 0, 1) := by decide +kernel
theorem dX5_shareOut_94 : decode cX5_shareOut 94 = .ok (.aaload, 1) := by decide +kernel
theorem dX5_shareOut_95 : decode cX5_shareOut 95 = .ok (.aload_n 0, 1) := by decide +kernel
theorem dX5_shareOut_96 : decode cX5_shareOut 96 = .ok (.getfield 35, 3) := by decide +kernel
theorem dX5_shareOut_99 : decode cX5_shareOut 99 = .ok (.iaload, 1) := by decide +kernel
theorem dX5_shareOut_100 : decode cX5_shareOut 100 = .ok (.if_icmp .lt 10, 3) := by decide +kernel
theorem dX5_shareOut_103 : decode cX5_shareOut 103 = .ok (.aload_n 0, 1) := by decide +kernel
theorem dX5_shareOut_104 : decode cX5_shareOut 104 = .ok (.getfield 39, 3) := by decide +kernel
theorem dX5_shareOut_107 : decode cX5_shareOut 107 = .ok (.goto 7, 3) := by decide +kernel
theorem dX5_shareOut_110 : decode cX5_shareOut 110 = .ok (.aload_n 0, 1) := by decide +kernel
theorem dX5_shareOut_111 : decode cX5_shareOut 111 = .ok (.getfield 42, 3) := by decide +kernel
theorem dX5_shareOut_114 : decode cX5_shareOut 114 = .ok (.iastore, 1) := by decide +kernel
theorem dX5_shareOut_115 : decode cX5_shareOut 115 = .ok (.aload_n 0, 1) := by decide +kernel
theorem dX5_shareOut_116 : decode cX5_shareOut 116 = .ok (.getfield 29, 3) := by decide +kernel
theorem dX5_shareOut_119 : decode cX5_shareOut 119 = .ok (.aload_n 0, 1) := by decide +kernel
theorem dX5_shareOut_120 : decode cX5_shareOut 120 = .ok (.getfield 35, 3) := by decide +kernel
theorem dX5_shareOut_123 : decode cX5_shareOut 123 = .ok (.iload_n 1, 1) := by decide +kernel
theorem dX5_shareOut_124 : decode cX5_shareOut 124 = .ok (.aload_n 0, 1) := by decide +kernel
theorem dX5_shareOut_125 : decode cX5_shareOut 125 = .ok (.getfield 29, 3) := by decide +kernel
theorem dX5_shareOut_128 : decode cX5_shareOut 128 = .ok (.iload_n 2, 1) := by decide +kernel
theorem dX5_shareOut_129 : decode cX5_shareOut 129 = .ok (.iaload, 1) := by decide +kernel
theorem dX5_shareOut_130 : decode cX5_shareOut 130 = .ok (.isub, 1) := by decide +kernel
theorem dX5_shareOut_131 : decode cX5_shareOut 131 = .ok (.iastore, 1) := by decide +kernel
theorem dX5_shareOut_132 : decode cX5_shareOut 132 = .ok (.aload_n 0, 1) := by decide +kernel
theorem dX5_shareOut_133 : decode cX5_shareOut 133 = .ok (.invokevirtual 112, 3) := by decide +kernel
theorem dX5_shareOut_136 : decode cX5_shareOut 136 = .ok (.return_, 1) := by decide +kernel
theorem dX5_narrow_0 : decode cX5_narrow 0 = .ok (.aload_n 0, 1) := by decide +kernel
theorem dX5_narrow_1 : decode cX5_narrow 1 = .ok (.getfield 13, 3) := by decide +kernel
theorem dX5_narrow_4 : decode cX5_narrow 4 = .ok (.iload_n 1, 1) := by decide +kernel
theorem dX5_narrow_5 : decode cX5_narrow 5 = .ok (.aaload, 1) := by decide +kernel
theorem dX5_narrow_6 : decode cX5_narrow 6 = .ok (.iload_n 2, 1) := by decide +kernel
theorem dX5_narrow_7 : decode cX5_narrow 7 = .ok (.iaload, 1) := by decide +kernel
theorem dX5_narrow_8 : decode cX5_narrow 8 = .ok (.aload_n 0, 1) := by decide +kernel
theorem dX5_narrow_9 : decode cX5_narrow 9 = .ok (.getfield 13, 3) := by decide +kernel
theorem dX5_narrow_12 : decode cX5_narrow 12 = .ok (.iload_n 1, 1) := by decide +kernel
theorem dX5_narrow_13 : decode cX5_narrow 13 = .ok (.aaload, 1) := by decide +kernel
theorem dX5_narrow_14 : decode cX5_narrow 14 = .ok (.aload_n 0, 1) := by decide +kernel
theorem dX5_narrow_15 : decode cX5_narrow 15 = .ok (.getfield 35, 3) := by decide +kernel
theorem dX5_narrow_18 : decode cX5_narrow 18 = .ok (.iaload, 1) := by decide +kernel
theorem dX5_narrow_19 : decode cX5_narrow 19 = .ok (.isub, 1) := by decide +kernel
theorem dX5_narrow_20 : decode cX5_narrow 20 = .ok (.istore 4, 2) := by decide +kernel
theorem dX5_narrow_22 : decode cX5_narrow 22 = .ok (.aload_n 0, 1) := by decide +kernel
theorem dX5_narrow_23 : decode cX5_narrow 23 = .ok (.getfield 22, 3) := by decide +kernel
theorem dX5_narrow_26 : decode cX5_narrow 26 = .ok (.iload_n 1, 1) := by decide +kernel
theorem dX5_narrow_27 : decode cX5_narrow 27 = .ok (.iaload, 1) := by decide +kernel
theorem dX5_narrow_28 : decode cX5_narrow 28 = .ok (.aload_n 0, 1) := by decide +kernel
theorem dX5_narrow_29 : decode cX5_narrow 29 = .ok (.getfield 19, 3) := by decide +kernel
theorem dX5_narrow_32 : decode cX5_narrow 32 = .ok (.iload_n 1, 1) := by decide +kernel
theorem dX5_narrow_33 : decode cX5_narrow 33 = .ok (.aaload, 1) := by decide +kernel
theorem dX5_narrow_34 : decode cX5_narrow 34 = .ok (.iload_n 2, 1) := by decide +kernel
theorem dX5_narrow_35 : decode cX5_narrow 35 = .ok (.iaload, 1) := by decide +kernel
theorem dX5_narrow_36 : decode cX5_narrow 36 = .ok (.isub, 1) := by decide +kernel
theorem dX5_narrow_37 : decode cX5_narrow 37 = .ok (.iload_n 3, 1) := by decide +kernel
theorem dX5_narrow_38 : decode cX5_narrow 38 = .ok (.aload_n 0, 1) := by decide +kernel
theorem dX5_narrow_39 : decode cX5_narrow 39 = .ok (.getfield 13, 3) := by decide +kernel
theorem dX5_narrow_42 : decode cX5_narrow 42 = .ok (.iload_n 1, 1) := by decide +kernel
theorem dX5_narrow_43 : decode cX5_narrow 43 = .ok (.aaload, 1) := by decide +kernel
theorem dX5_narrow_44 : decode cX5_narrow 44 = .ok (.aload_n 0, 1) := by decide +kernel
theorem dX5_narrow_45 : decode cX5_narrow 45 = .ok (.getfield 35, 3) := by decide +kernel
theorem dX5_narrow_48 : decode cX5_narrow 48 = .ok (.iaload, 1) := by decide +kernel
theorem dX5_narrow_49 : decode cX5_narrow 49 = .ok (.imul, 1) := by decide +kernel
theorem dX5_narrow_50 : decode cX5_narrow 50 = .ok (.isub, 1) := by decide +kernel
theorem dX5_narrow_51 : decode cX5_narrow 51 = .ok (.istore 5, 2) := by decide +kernel
theorem dX5_narrow_53 : decode cX5_narrow 53 = .ok (.iload 4, 2) := by decide +kernel
theorem dX5_narrow_55 : decode cX5_narrow 55 = .ok (.ifCond .le 24, 3) := by decide +kernel
theorem dX5_narrow_58 : decode cX5_narrow 58 = .ok (.aload_n 0, 1) := by decide +kernel
theorem dX5_narrow_59 : decode cX5_narrow 59 = .ok (.aload_n 0, 1) := by decide +kernel
theorem dX5_narrow_60 : decode cX5_narrow 60 = .ok (.getfield 42, 3) := by decide +kernel
theorem dX5_narrow_63 : decode cX5_narrow 63 = .ok (.iload 5, 2) := by decide +kernel
theorem dX5_narrow_65 : decode cX5_narrow 65 = .ok (.iload 4, 2) := by decide +kernel
theorem dX5_narrow_67 : decode cX5_narrow 67 = .ok (.invokestatic 115, 3) := by decide +kernel
theorem dX5_narrow_70 : decode cX5_narrow 70 = .ok (.invokestatic 79, 3) := by decide +kernel
theorem dX5_narrow_73 : decode cX5_narrow 73 = .ok (.putfield 42, 3) := by decide +kernel
theorem dX5_narrow_76 : decode cX5_narrow 76 = .ok (.goto 41, 3) := by decide +kernel
theorem dX5_narrow_79 : decode cX5_narrow 79 = .ok (.iload 4, 2) := by decide +kernel
theorem dX5_narrow_81 : decode cX5_narrow 81 = .ok (.ifCond .ge 26, 3) := by decide +kernel
theorem dX5_narrow_84 : decode cX5_narrow 84 = .ok (.aload_n 0, 1) := by decide +kernel
theorem dX5_narrow_85 : decode cX5_narrow 85 = .ok (.aload_n 0, 1) := by decide +kernel
theorem dX5_narrow_86 : decode cX5_narrow 86 = .ok (.getfield 39, 3) := by decide +kernel
theorem dX5_narrow_89 : decode cX5_narrow 89 = .ok (.iload 5, 2) := by decide +kernel
theorem dX5_narrow_91 : decode cX5_narrow 91 = .ok (.iload 4, 2) := by decide +kernel
theorem dX5_narrow_93 : decode cX5_narrow 93 = .ok (.ineg, 1) := by decide +kernel
theorem dX5_narrow_94 : decode cX5_narrow 94 = .ok (.invokestatic 115, 3) := by decide +kernel
theorem dX5_narrow_97 : decode cX5_narrow 97 = .ok (.ineg, 1) := by decide +kernel
theorem dX5_narrow_98 : decode cX5_narrow 98 = .ok (.invokestatic 73, 3) := by decide +kernel
theorem dX5_narrow_101 : decode cX5_narrow 101 = .ok (.putfield 39, 3) := by decide +kernel
theorem dX5_narrow_104 : decode cX5_narrow 104 = .ok (.goto 13, 3) := by decide +kernel
theorem dX5_narrow_107 : decode cX5_narrow 107 = .ok (.iload 5, 2) := by decide +kernel
theorem dX5_narrow_109 : decode cX5_narrow 109 = .ok (.ifCond .ge 8, 3) := by decide +kernel
theorem dX5_narrow_112 : decode cX5_narrow 112 = .ok (.aload_n 0, 1) := by decide +kernel
theorem dX5_narrow_113 : decode cX5_narrow 113 = .ok (.iconst (-1), 1) := by decide +kernel
theorem dX5_narrow_114 : decode cX5_narrow 114 = .ok (.putfield 42, 3) := by decide +kernel
theorem dX5_narrow_117 : decode cX5_narrow 117 = .ok (.return_, 1) := by decide +kernel
theorem dX5_keepRow_0 : decode cX5_keepRow 0 = .ok (.aload_n 0, 1) := by decide +kernel
theorem dX5_keepRow_1 : decode cX5_keepRow 1 = .ok (.getfield 19, 3) := by decide +kernel
theorem dX5_keepRow_4 : decode cX5_keepRow 4 = .ok (.iconst 0, 1) := by decide +kernel
theorem dX5_keepRow_5 : decode cX5_keepRow 5 = .ok (.aaload, 1) := by decide +kernel
theorem dX5_keepRow_6 : decode cX5_keepRow 6 = .ok (.aload_n 0, 1) := by decide +kernel
theorem dX5_keepRow_7 : decode cX5_keepRow 7 = .ok (.getfield 35, 3) := by decide +kernel
theorem dX5_keepRow_10 : decode cX5_keepRow 10 = .ok (.iconst 1, 1) := by decide +kernel
theorem dX5_keepRow_11 : decode cX5_keepRow 11 = .ok (.isub, 1) := by decide +kernel
theorem dX5_keepRow_12 : decode cX5_keepRow 12 = .ok (.iaload, 1) := by decide +kernel
theorem dX5_keepRow_13 : decode cX5_keepRow 13 = .ok (.aload_n 0, 1) := by decide +kernel
theorem dX5_keepRow_14 : decode cX5_keepRow 14 = .ok (.getfield 29, 3) := by decide +kernel
theorem dX5_keepRow_17 : decode cX5_keepRow 17 = .ok (.aload_n 0, 1) := by decide +kernel
theorem dX5_keepRow_18 : decode cX5_keepRow 18 = .ok (.getfield 35, 3) := by decide +kernel
theorem dX5_keepRow_21 : decode cX5_keepRow 21 = .ok (.iconst 1, 1) := by decide +kernel
theorem dX5_keepRow_22 : decode cX5_keepRow 22 = .ok (.isub, 1) := by decide +kernel
theorem dX5_keepRow_23 : decode cX5_keepRow 23 = .ok (.iaload, 1) := by decide +kernel
theorem dX5_keepRow_24 : decode cX5_keepRow 24 = .ok (.aload_n 0, 1) := by decide +kernel
theorem dX5_keepRow_25 : decode cX5_keepRow 25 = .ok (.getfield 13, 3) := by decide +kernel
theorem dX5_keepRow_28 : decode cX5_keepRow 28 = .ok (.iconst 0, 1) := by decide +kernel
theorem dX5_keepRow_29 : decode cX5_keepRow 29 = .ok (.aaload, 1) := by decide +kernel
theorem dX5_keepRow_30 : decode cX5_keepRow 30 = .ok (.aload_n 0, 1) := by decide +kernel
theorem dX5_keepRow_31 : decode cX5_keepRow 31 = .ok (.getfield 35, 3) := by decide +kernel
theorem dX5_keepRow_34 : decode cX5_keepRow 34 = .ok (.iconst 1, 1) := by decide +kernel
theorem dX5_keepRow_35 : decode cX5_keepRow 35 = .ok (.isub, 1) := by decide +kernel
theorem dX5_keepRow_36 : decode cX5_keepRow 36 = .ok (.iaload, 1) := by decide +kernel
theorem dX5_keepRow_37 : decode cX5_keepRow 37 = .ok (.imul, 1) := by decide +kernel
theorem dX5_keepRow_38 : decode cX5_keepRow 38 = .ok (.iadd, 1) := by decide +kernel
theorem dX5_keepRow_39 : decode cX5_keepRow 39 = .ok (.aload_n 0, 1) := by decide +kernel
theorem dX5_keepRow_40 : decode cX5_keepRow 40 = .ok (.getfield 29, 3) := by decide +kernel
theorem dX5_keepRow_43 : decode cX5_keepRow 43 = .ok (.aload_n 0, 1) := by decide +kernel
theorem dX5_keepRow_44 : decode cX5_keepRow 44 = .ok (.getfield 35, 3) := by decide +kernel
theorem dX5_keepRow_47 : decode cX5_keepRow 47 = .ok (.iaload, 1) := by decide +kernel
theorem dX5_keepRow_48 : decode cX5_keepRow 48 = .ok (.aload_n 0, 1) := by decide +kernel
theorem dX5_keepRow_49 : decode cX5_keepRow 49 = .ok (.getfield 13, 3) := by decide +kernel
theorem dX5_keepRow_52 : decode cX5_keepRow 52 = .ok (.iconst 0, 1) := by decide +kernel
theorem dX5_keepRow_53 : decode cX5_keepRow 53 = .ok (.aaload, 1) := by decide +kernel
theorem dX5_keepRow_54 : decode cX5_keepRow 54 = .ok (.aload_n 0, 1) := by decide +kernel
theorem dX5_keepRow_55 : decode cX5_keepRow 55 = .ok (.getfield 35, 3) := by decide +kernel
theorem dX5_keepRow_58 : decode cX5_keepRow 58 = .ok (.iaload, 1) := by decide +kernel
theorem dX5_keepRow_59 : decode cX5_keepRow 59 = .ok (.imul, 1) := by decide +kernel
theorem dX5_keepRow_60 : decode cX5_keepRow 60 = .ok (.iadd, 1) := by decide +kernel
theorem dX5_keepRow_61 : decode cX5_keepRow 61 = .ok (.istore_n 1, 1) := by decide +kernel
theorem dX5_keepRow_62 : decode cX5_keepRow 62 = .ok (.aload_n 0, 1) := by decide +kernel
theorem dX5_keepRow_63 : decode cX5_keepRow 63 = .ok (.iconst 1, 1) := by decide +kernel
theorem dX5_keepRow_64 : decode cX5_keepRow 64 = .ok (.putfield 45, 3) := by decide +kernel
theorem dX5_keepRow_67 : decode cX5_keepRow 67 = .ok (.aload_n 0, 1) := by decide +kernel
theorem dX5_keepRow_68 : decode cX5_keepRow 68 = .ok (.getfield 22, 3) := by decide +kernel
theorem dX5_keepRow_71 : decode cX5_keepRow 71 = .ok (.iconst 0, 1) := by decide +kernel
theorem dX5_keepRow_72 : decode cX5_keepRow 72 = .ok (.iload_n 1, 1) := by decide +kernel
theorem dX5_keepRow_73 : decode cX5_keepRow 73 = .ok (.iconst 1, 1) := by decide +kernel
theorem dX5_keepRow_74 : decode cX5_keepRow 74 = .ok (.isub, 1) := by decide +kernel
theorem dX5_keepRow_75 : decode cX5_keepRow 75 = .ok (.iastore, 1) := by decide +kernel
theorem dX5_keepRow_76 : decode cX5_keepRow 76 = .ok (.aload_n 0, 1) := by decide +kernel
theorem dX5_keepRow_77 : decode cX5_keepRow 77 = .ok (.getfield 29, 3) := by decide +kernel
theorem dX5_keepRow_80 : decode cX5_keepRow 80 = .ok (.iconst 0, 1) := by decide +kernel
theorem dX5_keepRow_81 : decode cX5_keepRow 81 = .ok (.aload_n 0, 1) := by decide +kernel
theorem dX5_keepRow_82 : decode cX5_keepRow 82 = .ok (.getfield 32, 3) := by decide +kernel
theorem dX5_keepRow_85 : decode cX5_keepRow 85 = .ok (.iconst 0, 1) := by decide +kernel
theorem dX5_keepRow_86 : decode cX5_keepRow 86 = .ok (.bipush 6, 2) := by decide +kernel
theorem dX5_keepRow_88 : decode cX5_keepRow 88 = .ok (.invokestatic 118, 3) := by decide +kernel
theorem dX5_keepRow_91 : decode cX5_keepRow 91 = .ok (.return_, 1) := by decide +kernel
theorem dX6_init_0 : decode cX6_init 0 = .ok (.aload_n 0, 1) := by decide +kernel
theorem dX6_init_1 : decode cX6_init 1 = .ok (.invokespecial 3, 3) := by decide +kernel
theorem dX6_init_4 : decode cX6_init 4 = .ok (.aload_n 0, 1) := by decide +kernel
theorem dX6_init_5 : decode cX6_init 5 = .ok (.bipush 20, 2) := by decide +kernel
theorem dX6_init_7 : decode cX6_init 7 = .ok (.newarray .int, 2) := by decide +kernel
theorem dX6_init_9 : decode cX6_init 9 = .ok (.putfield 9, 3) := by decide +kernel
theorem dX6_init_12 : decode cX6_init 12 = .ok (.aload_n 0, 1) := by decide +kernel
theorem dX6_init_13 : decode cX6_init 13 = .ok (.bipush 20, 2) := by decide +kernel
theorem dX6_init_15 : decode cX6_init 15 = .ok (.newarray .int, 2) := by decide +kernel
theorem dX6_init_17 : decode cX6_init 17 = .ok (.putfield 15, 3) := by decide +kernel
theorem dX6_init_20 : decode cX6_init 20 = .ok (.aload_n 0, 1) := by decide +kernel
theorem dX6_init_21 : decode cX6_init 21 = .ok (.bipush 20, 2) := by decide +kernel
theorem dX6_init_23 : decode cX6_init 23 = .ok (.newarray .int, 2) := by decide +kernel
theorem dX6_init_25 : decode cX6_init 25 = .ok (.putfield 18, 3) := by decide +kernel
theorem dX6_init_28 : decode cX6_init 28 = .ok (.aload_n 0, 1) := by decide +kernel
theorem dX6_init_29 : decode cX6_init 29 = .ok (.iconst 0, 1) := by decide +kernel
theorem dX6_init_30 : decode cX6_init 30 = .ok (.putfield 21, 3) := by decide +kernel
theorem dX6_init_33 : decode cX6_init 33 = .ok (.return_, 1) := by decide +kernel
theorem dX6_length_0 : decode cX6_length 0 = .ok (.aload_n 0, 1) := by decide +kernel
theorem dX6_length_1 : decode cX6_length 1 = .ok (.getfield 21, 3) := by decide +kernel
theorem dX6_length_4 : decode cX6_length 4 = .ok (.ireturn, 1) := by decide +kernel
theorem dX6_clear_0 : decode cX6_clear 0 = .ok (.aload_n 0, 1) := by decide +kernel
theorem dX6_clear_1 : decode cX6_clear 1 = .ok (.iconst 0, 1) := by decide +kernel
theorem dX6_clear_2 : decode cX6_clear 2 = .ok (.putfield 21, 3) := by decide +kernel
theorem dX6_clear_5 : decode cX6_clear 5 = .ok (.return_, 1) := by decide +kernel
theorem dX6_add_0 : decode cX6_add 0 = .ok (.aload_n 0, 1) := by decide +kernel
theorem dX6_add_1 : decode cX6_add 1 = .ok (.getfield 21, 3) := by decide +kernel
theorem dX6_add_4 : decode cX6_add 4 = .ok (.bipush 20, 2) := by decide +kernel
theorem dX6_add_6 : decode cX6_add 6 = .ok (.if_icmp .ge 43, 3) := by decide +kernel
theorem dX6_add_9 : decode cX6_add 9 = .ok (.aload_n 0, 1) := by decide +kernel
theorem dX6_add_10 : decode cX6_add 10 = .ok (.getfield 9, 3) := by decide +kernel
theorem dX6_add_13 : decode cX6_add 13 = .ok (.aload_n 0, 1) := by decide +kernel
theorem dX6_add_14 : decode cX6_add 14 = .ok (.getfield 21, 3) := by decide +kernel
theorem dX6_add_17 : decode cX6_add 17 = .ok (.iload_n 1, 1) := by decide +kernel
theorem dX6_add_18 : decode cX6_add 18 = .ok (.iastore, 1) := by decide +kernel
theorem dX6_add_19 : decode cX6_add 19 = .ok (.aload_n 0, 1) := by decide +kernel
theorem dX6_add_20 : decode cX6_add 20 = .ok (.getfield 15, 3) := by decide +kernel
theorem dX6_add_23 : decode cX6_add 23 = .ok (.aload_n 0, 1) := by decide +kernel
theorem dX6_add_24 : decode cX6_add 24 = .ok (.getfield 21, 3) := by decide +kernel
theorem dX6_add_27 : decode cX6_add 27 = .ok (.iload_n 2, 1) := by decide +kernel
theorem dX6_add_28 : decode cX6_add 28 = .ok (.iastore, 1) := by decide +kernel
theorem dX6_add_29 : decode cX6_add 29 = .ok (.aload_n 0, 1) := by decide +kernel
theorem dX6_add_30 : decode cX6_add 30 = .ok (.getfield 18, 3) := by decide +kernel
theorem dX6_add_33 : decode cX6_add 33 = .ok (.aload_n 0, 1) := by decide +kernel
theorem dX6_add_34 : decode cX6_add 34 = .ok (.getfield 21, 3) := by decide +kernel
theorem dX6_add_37 : decode cX6_add 37 = .ok (.iload_n 3, 1) := by decide +kernel
theorem dX6_add_38 : decode cX6_add 38 = .ok (.iastore, 1) := by decide +kernel
theorem dX6_add_39 : decode cX6_add 39 = .ok (.aload_n 0, 1) := by decide +kernel
theorem dX6_add_40 : decode cX6_add 40 = .ok (.dup, 1) := by decide +kernel
theorem dX6_add_41 : decode cX6_add 41 = .ok (.getfield 21, 3) := by decide +kernel
theorem dX6_add_44 : decode cX6_add 44 = .ok (.iconst 1, 1) := by decide +kernel
theorem dX6_add_45 : decode cX6_add 45 = .ok (.iadd, 1) := by decide +kernel
theorem dX6_add_46 : decode cX6_add 46 = .ok (.putfield 21, 3) := by decide +kernel
theorem dX6_add_49 : decode cX6_add 49 = .ok (.return_, 1) := by decide +kernel
theorem dX6_kindAt_0 : decode cX6_kindAt 0 = .ok (.iload_n 1, 1) := by decide +kernel
theorem dX6_kindAt_1 : decode cX6_kindAt 1 = .ok (.ifCond .lt 26, 3) := by decide +kernel
theorem dX6_kindAt_4 : decode cX6_kindAt 4 = .ok (.iload_n 1, 1) := by decide +kernel
theorem dX6_kindAt_5 : decode cX6_kindAt 5 = .ok (.aload_n 0, 1) := by decide +kernel
theorem dX6_kindAt_6 : decode cX6_kindAt 6 = .ok (.getfield 21, 3) := by decide +kernel
theorem dX6_kindAt_9 : decode cX6_kindAt 9 = .ok (.if_icmp .ge 18, 3) := by decide +kernel
theorem dX6_kindAt_12 : decode cX6_kindAt 12 = .ok (.iload_n 1, 1) := by decide +kernel
theorem dX6_kindAt_13 : decode cX6_kindAt 13 = .ok (.bipush 20, 2) := by decide +kernel
theorem dX6_kindAt_15 : decode cX6_kindAt 15 = .ok (.if_icmp .ge 12, 3) := by decide +kernel
theorem dX6_kindAt_18 : decode cX6_kindAt 18 = .ok (.aload_n 0, 1) := by decide +kernel
theorem dX6_kindAt_19 : decode cX6_kindAt 19 = .ok (.getfield 9, 3) := by decide +kernel
theorem dX6_kindAt_22 : decode cX6_kindAt 22 = .ok (.iload_n 1, 1) := by decide +kernel
theorem dX6_kindAt_23 : decode cX6_kindAt 23 = .ok (.iaload, 1) := by decide +kernel
theorem dX6_kindAt_24 : decode cX6_kindAt 24 = .ok (.goto 4, 3) := by decide +kernel
theorem dX6_kindAt_27 : decode cX6_kindAt 27 = .ok (.iconst (-1), 1) := by decide +kernel
theorem dX6_kindAt_28 : decode cX6_kindAt 28 = .ok (.ireturn, 1) := by decide +kernel
theorem dX6_firstAt_0 : decode cX6_firstAt 0 = .ok (.iload_n 1, 1) := by decide +kernel
theorem dX6_firstAt_1 : decode cX6_firstAt 1 = .ok (.ifCond .lt 26, 3) := by decide +kernel
theorem dX6_firstAt_4 : decode cX6_firstAt 4 = .ok (.iload_n 1, 1) := by decide +kernel
theorem dX6_firstAt_5 : decode cX6_firstAt 5 = .ok (.aload_n 0, 1) := by decide +kernel
theorem dX6_firstAt_6 : decode cX6_firstAt 6 = .ok (.getfield 21, 3) := by decide +kernel
theorem dX6_firstAt_9 : decode cX6_firstAt 9 = .ok (.if_icmp .ge 18, 3) := by decide +kernel
theorem dX6_firstAt_12 : decode cX6_firstAt 12 = .ok (.iload_n 1, 1) := by decide +kernel
theorem dX6_firstAt_13 : decode cX6_firstAt 13 = .ok (.bipush 20, 2) := by decide +kernel
theorem dX6_firstAt_15 : decode cX6_firstAt 15 = .ok (.if_icmp .ge 12, 3) := by decide +kernel
theorem dX6_firstAt_18 : decode cX6_firstAt 18 = .ok (.aload_n 0, 1) := by decide +kernel
theorem dX6_firstAt_19 : decode cX6_firstAt 19 = .ok (.getfield 15, 3) := by decide +kernel
theorem dX6_firstAt_22 : decode cX6_firstAt 22 = .ok (.iload_n 1, 1) := by decide +kernel
theorem dX6_firstAt_23 : decode cX6_firstAt 23 = .ok (.iaload, 1) := by decide +kernel
theorem dX6_firstAt_24 : decode cX6_firstAt 24 = .ok (.goto 4, 3) := by decide +kernel
theorem dX6_firstAt_27 : decode cX6_firstAt 27 = .ok (.iconst 0, 1) := by decide +kernel
theorem dX6_firstAt_28 : decode cX6_firstAt 28 = .ok (.ireturn, 1) := by decide +kernel
theorem dX6_secondAt_0 : decode cX6_secondAt 0 = .ok (.iload_n 1, 1) := by decide +kernel
theorem dX6_secondAt_1 : decode cX6_secondAt 1 = .ok (.ifCond .lt 26, 3) := by decide +kernel
theorem dX6_secondAt_4 : decode cX6_secondAt 4 = .ok (.iload_n 1, 1) := by decide +kernel
theorem dX6_secondAt_5 : decode cX6_secondAt 5 = .ok (.aload_n 0, 1) := by decide +kernel
theorem dX6_secondAt_6 : decode cX6_secondAt 6 = .ok (.getfield 21, 3) := by decide +kernel
theorem dX6_secondAt_9 : decode cX6_secondAt 9 = .ok (.if_icmp .ge 18, 3) := by decide +kernel
theorem dX6_secondAt_12 : decode cX6_secondAt 12 = .ok (.iload_n 1, 1) := by decide +kernel
theorem dX6_secondAt_13 : decode cX6_secondAt 13 = .ok (.bipush 20, 2) := by decide +kernel
theorem dX6_secondAt_15 : decode cX6_secondAt 15 = .ok (.if_icmp .ge 12, 3) := by decide +kernel
theorem dX6_secondAt_18 : decode cX6_secondAt 18 = .ok (.aload_n 0, 1) := by decide +kernel
theorem dX6_secondAt_19 : decode cX6_secondAt 19 = .ok (.getfield 18, 3) := by decide +kernel
theorem dX6_secondAt_22 : decode cX6_secondAt 22 = .ok (.iload_n 1, 1) := by decide +kernel
theorem dX6_secondAt_23 : decode cX6_secondAt 23 = .ok (.iaload, 1) := by decide +kernel
theorem dX6_secondAt_24 : decode cX6_secondAt 24 = .ok (.goto 4, 3) := by decide +kernel
theorem dX6_secondAt_27 : decode cX6_secondAt 27 = .ok (.iconst 0, 1) := by decide +kernel
theorem dX6_secondAt_28 : decode cX6_secondAt 28 = .ok (.ireturn, 1) := by decide +kernel
