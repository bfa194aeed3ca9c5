theorem dX11_init_0 : decode cX11_init 0 = .ok (.aload_n 0, 1) := by decide +kernel
theorem dX11_init_1 : decode cX11_init 1 = .ok (.invokespecial 3, 3) := by decide +kernel
theorem dX11_init_4 : decode cX11_init 4 = .ok (.new 9, 3) := by decide +kernel
theorem dX11_init_7 : decode cX11_init 7 = .ok (.dup, 1) := by decide +kernel
theorem dX11_init_8 : decode cX11_init 8 = .ok (.invokespecial 11, 3) := by decide +kernel
theorem dX11_init_11 : decode cX11_init 11 = .ok (.astore_n 1, 1) := by decide +kernel
theorem dX11_init_12 : decode cX11_init 12 = .ok (.new 12, 3) := by decide +kernel
theorem dX11_init_15 : decode cX11_init 15 = .ok (.dup, 1) := by decide +kernel
theorem dX11_init_16 : decode cX11_init 16 = .ok (.aload_n 1, 1) := by decide +kernel
theorem dX11_init_17 : decode cX11_init 17 = .ok (.invokespecial 14, 3) := by decide +kernel
theorem dX11_init_20 : decode cX11_init 20 = .ok (.astore_n 2, 1) := by decide +kernel
theorem dX11_init_21 : decode cX11_init 21 = .ok (.new 17, 3) := by decide +kernel
theorem dX11_init_24 : decode cX11_init 24 = .ok (.dup, 1) := by decide +kernel
theorem dX11_init_25 : decode cX11_init 25 = .ok (.aload_n 1, 1) := by decide +kernel
theorem dX11_init_26 : decode cX11_init 26 = .ok (.invokespecial 19, 3) := by decide +kernel
theorem dX11_init_29 : decode cX11_init 29 = .ok (.astore_n 3, 1) := by decide +kernel
theorem dX11_init_30 : decode cX11_init 30 = .ok (.new 20, 3) := by decide +kernel
theorem dX11_init_33 : decode cX11_init 33 = .ok (.dup, 1) := by decide +kernel
theorem dX11_init_34 : decode cX11_init 34 = .ok (.invokespecial 22, 3) := by decide +kernel
theorem dX11_init_37 : decode cX11_init 37 = .ok (.astore 4, 2) := by decide +kernel
theorem dX11_init_39 : decode cX11_init 39 = .ok (.new 23, 3) := by decide +kernel
theorem dX11_init_42 : decode cX11_init 42 = .ok (.dup, 1) := by decide +kernel
theorem dX11_init_43 : decode cX11_init 43 = .ok (.aload 4, 2) := by decide +kernel
theorem dX11_init_45 : decode cX11_init 45 = .ok (.invokespecial 25, 3) := by decide +kernel
theorem dX11_init_48 : decode cX11_init 48 = .ok (.astore 5, 2) := by decide +kernel
theorem dX11_init_50 : decode cX11_init 50 = .ok (.new 28, 3) := by decide +kernel
theorem dX11_init_53 : decode cX11_init 53 = .ok (.dup, 1) := by decide +kernel
theorem dX11_init_54 : decode cX11_init 54 = .ok (.invokespecial 30, 3) := by decide +kernel
theorem dX11_init_57 : decode cX11_init 57 = .ok (.astore 6, 2) := by decide +kernel
theorem dX11_init_59 : decode cX11_init 59 = .ok (.aload_n 0, 1) := by decide +kernel
theorem dX11_init_60 : decode cX11_init 60 = .ok (.aload_n 1, 1) := by decide +kernel
theorem dX11_init_61 : decode cX11_init 61 = .ok (.putfield 31, 3) := by decide +kernel
theorem dX11_init_64 : decode cX11_init 64 = .ok (.aload_n 0, 1) := by decide +kernel
theorem dX11_init_65 : decode cX11_init 65 = .ok (.aload_n 2, 1) := by decide +kernel
theorem dX11_init_66 : decode cX11_init 66 = .ok (.putfield 35, 3) := by decide +kernel
theorem dX11_init_69 : decode cX11_init 69 = .ok (.aload_n 0, 1) := by decide +kernel
theorem dX11_init_70 : decode cX11_init 70 = .ok (.aload_n 3, 1) := by decide +kernel
theorem dX11_init_71 : decode cX11_init 71 = .ok (.putfield 39, 3) := by decide +kernel
theorem dX11_init_74 : decode cX11_init 74 = .ok (.aload_n 0, 1) := by decide +kernel
theorem dX11_init_75 : decode cX11_init 75 = .ok (.aload 4, 2) := by decide +kernel
theorem dX11_init_77 : decode cX11_init 77 = .ok (.putfield 43, 3) := by decide +kernel
theorem dX11_init_80 : decode cX11_init 80 = .ok (.aload_n 0, 1) := by decide +kernel
theorem dX11_init_81 : decode cX11_init 81 = .ok (.new 47, 3) := by decide +kernel
theorem dX11_init_84 : decode cX11_init 84 = .ok (.dup, 1) := by decide +kernel
theorem dX11_init_85 : decode cX11_init 85 = .ok (.aload 4, 2) := by decide +kernel
theorem dX11_init_87 : decode cX11_init 87 = .ok (.invokespecial 49, 3) := by decide +kernel
theorem dX11_init_90 : decode cX11_init 90 = .ok (.putfield 50, 3) := by decide +kernel
theorem dX11_init_93 : decode cX11_init 93 = .ok (.aload_n 0, 1) := by decide +kernel
theorem dX11_init_94 : decode cX11_init 94 = .ok (.aload 5, 2) := by decide +kernel
theorem dX11_init_96 : decode cX11_init 96 = .ok (.putfield 54, 3) := by decide +kernel
theorem dX11_init_99 : decode cX11_init 99 = .ok (.aload_n 0, 1) := by decide +kernel
theorem dX11_init_100 : decode cX11_init 100 = .ok (.aload 6, 2) := by decide +kernel
theorem dX11_init_102 : decode cX11_init 102 = .ok (.putfield 58, 3) := by decide +kernel
theorem dX11_init_105 : decode cX11_init 105 = .ok (.aload_n 0, 1) := by decide +kernel
theorem dX11_init_106 : decode cX11_init 106 = .ok (.new 62, 3) := by decide +kernel
theorem dX11_init_109 : decode cX11_init 109 = .ok (.dup, 1) := by decide +kernel
theorem dX11_init_110 : decode cX11_init 110 = .ok (.aload 6, 2) := by decide +kernel
theorem dX11_init_112 : decode cX11_init 112 = .ok (.invokespecial 64, 3) := by decide +kernel
theorem dX11_init_115 : decode cX11_init 115 = .ok (.putfield 67, 3) := by decide +kernel
theorem dX11_init_118 : decode cX11_init 118 = .ok (.aload_n 0, 1) := by decide +kernel
theorem dX11_init_119 : decode cX11_init 119 = .ok (.new 71, 3) := by decide +kernel
theorem dX11_init_122 : decode cX11_init 122 = .ok (.dup, 1) := by decide +kernel
theorem dX11_init_123 : decode cX11_init 123 = .ok (.aload_n 2, 1) := by decide +kernel
theorem dX11_init_124 : decode cX11_init 124 = .ok (.aload_n 3, 1) := by decide +kernel
theorem dX11_init_125 : decode cX11_init 125 = .ok (.aload 5, 2) := by decide +kernel
theorem dX11_init_127 : decode cX11_init 127 = .ok (.invokespecial 73, 3) := by decide +kernel
theorem dX11_init_130 : decode cX11_init 130 = .ok (.putfield 76, 3) := by decide +kernel
theorem dX11_init_133 : decode cX11_init 133 = .ok (.aload_n 0, 1) := by decide +kernel
theorem dX11_init_134 : decode cX11_init 134 = .ok (.new 80, 3) := by decide +kernel
theorem dX11_init_137 : decode cX11_init 137 = .ok (.dup, 1) := by decide +kernel
theorem dX11_init_138 : decode cX11_init 138 = .ok (.invokespecial 82, 3) := by decide +kernel
theorem dX11_init_141 : decode cX11_init 141 = .ok (.putfield 83, 3) := by decide +kernel
theorem dX11_init_144 : decode cX11_init 144 = .ok (.aload_n 0, 1) := by decide +kernel
theorem dX11_init_145 : decode cX11_init 145 = .ok (.new 87, 3) := by decide +kernel
theorem dX11_init_148 : decode cX11_init 148 = .ok (.dup, 1) := by decide +kernel
theorem dX11_init_149 : decode cX11_init 149 = .ok (.invokespecial 89, 3) := by decide +kernel
theorem dX11_init_152 : decode cX11_init 152 = .ok (.putfield 90, 3) := by decide +kernel
theorem dX11_init_155 : decode cX11_init 155 = .ok (.aload_n 0, 1) := by decide +kernel
theorem dX11_init_156 : decode cX11_init 156 = .ok (.new 87, 3) := by decide +kernel
theorem dX11_init_159 : decode cX11_init 159 = .ok (.dup, 1) := by decide +kernel
theorem dX11_init_160 : decode cX11_init 160 = .ok (.invokespecial 89, 3) := by decide +kernel
theorem dX11_init_163 : decode cX11_init 163 = .ok (.putfield 94, 3) := by decide +kernel
theorem dX11_init_166 : decode cX11_init 166 = .ok (.aload_n 0, 1) := by decide +kernel
theorem dX11_init_167 : decode cX11_init 167 = .ok (.iconst (-1), 1) := by decide +kernel
theorem dX11_init_168 : decode cX11_init 168 = .ok (.putfield 97, 3) := by decide +kernel
theorem dX11_init_171 : decode cX11_init 171 = .ok (.aload_n 0, 1) := by decide +kernel
theorem dX11_init_172 : decode cX11_init 172 = .ok (.iconst 0, 1) := by decide +kernel
theorem dX11_init_173 : decode cX11_init 173 = .ok (.putfield 101, 3) := by decide +kernel
theorem dX11_init_176 : decode cX11_init 176 = .ok (.return_, 1) := by decide +kernel
theorem dX11_size_0 : decode cX11_size 0 = .ok (.iload_n 1, 1) := by decide +kernel
theorem dX11_size_1 : decode cX11_size 1 = .ok (.iconst 2, 1) := by decide +kernel
theorem dX11_size_2 : decode cX11_size 2 = .ok (.if_icmp .lt 20, 3) := by decide +kernel
theorem dX11_size_5 : decode cX11_size 5 = .ok (.iload_n 1, 1) := by decide +kernel
theorem dX11_size_6 : decode cX11_size 6 = .ok (.bipush 12, 2) := by decide +kernel
theorem dX11_size_8 : decode cX11_size 8 = .ok (.if_icmp .gt 14, 3) := by decide +kernel
theorem dX11_size_11 : decode cX11_size 11 = .ok (.iload_n 2, 1) := by decide +kernel
theorem dX11_size_12 : decode cX11_size 12 = .ok (.iconst 2, 1) := by decide +kernel
theorem dX11_size_13 : decode cX11_size 13 = .ok (.if_icmp .lt 9, 3) := by decide +kernel
theorem dX11_size_16 : decode cX11_size 16 = .ok (.iload_n 2, 1) := by decide +kernel
theorem dX11_size_17 : decode cX11_size 17 = .ok (.bipush 12, 2) := by decide +kernel
theorem dX11_size_19 : decode cX11_size 19 = .ok (.if_icmp .le 9, 3) := by decide +kernel
theorem dX11_size_22 : decode cX11_size 22 = .ok (.aload_n 0, 1) := by decide +kernel
theorem dX11_size_23 : decode cX11_size 23 = .ok (.iconst (-1), 1) := by decide +kernel
theorem dX11_size_24 : decode cX11_size 24 = .ok (.invokevirtual 104, 3) := by decide +kernel
theorem dX11_size_27 : decode cX11_size 27 = .ok (.ireturn, 1) := by decide +kernel
theorem dX11_size_28 : decode cX11_size 28 = .ok (.aload_n 0, 1) := by decide +kernel
theorem dX11_size_29 : decode cX11_size 29 = .ok (.getfield 31, 3) := by decide +kernel
theorem dX11_size_32 : decode cX11_size 32 = .ok (.iload_n 1, 1) := by decide +kernel
theorem dX11_size_33 : decode cX11_size 33 = .ok (.iload_n 2, 1) := by decide +kernel
theorem dX11_size_34 : decode cX11_size 34 = .ok (.invokevirtual 108, 3) := by decide +kernel
theorem dX11_size_37 : decode cX11_size 37 = .ok (.aload_n 0, 1) := by decide +kernel
theorem dX11_size_38 : decode cX11_size 38 = .ok (.iconst 0, 1) := by decide +kernel
theorem dX11_size_39 : decode cX11_size 39 = .ok (.invokevirtual 104, 3) := by decide +kernel
theorem dX11_size_42 : decode cX11_size 42 = .ok (.ireturn, 1) := by decide +kernel
theorem dX11_draw_0 : decode cX11_draw 0 = .ok (.iload 5, 2) := by decide +kernel
theorem dX11_draw_2 : decode cX11_draw 2 = .ok (.invokestatic 112, 3) := by decide +kernel
theorem dX11_draw_5 : decode cX11_draw 5 = .ok (.ifCond .eq 14, 3) := by decide +kernel
theorem dX11_draw_8 : decode cX11_draw 8 = .ok (.iload_n 1, 1) := by decide +kernel
theorem dX11_draw_9 : decode cX11_draw 9 = .ok (.iload_n 3, 1) := by decide +kernel
theorem dX11_draw_10 : decode cX11_draw 10 = .ok (.if_icmp .gt 9, 3) := by decide +kernel
theorem dX11_draw_13 : decode cX11_draw 13 = .ok (.iload_n 2, 1) := by decide +kernel
theorem dX11_draw_14 : decode cX11_draw 14 = .ok (.iload 4, 2) := by decide +kernel
theorem dX11_draw_16 : decode cX11_draw 16 = .ok (.if_icmp .le 9, 3) := by decide +kernel
theorem dX11_draw_19 : decode cX11_draw 19 = .ok (.aload_n 0, 1) := by decide +kernel
theorem dX11_draw_20 : decode cX11_draw 20 = .ok (.iconst (-1), 1) := by decide +kernel
theorem dX11_draw_21 : decode cX11_draw 21 = .ok (.invokevirtual 104, 3) := by decide +kernel
theorem dX11_draw_24 : decode cX11_draw 24 = .ok (.ireturn, 1) := by decide +kernel
theorem dX11_draw_25 : decode cX11_draw 25 = .ok (.aload_n 0, 1) := by decide +kernel
theorem dX11_draw_26 : decode cX11_draw 26 = .ok (.getfield 31, 3) := by decide +kernel
theorem dX11_draw_29 : decode cX11_draw 29 = .ok (.iload_n 1, 1) := by decide +kernel
theorem dX11_draw_30 : decode cX11_draw 30 = .ok (.iload_n 2, 1) := by decide +kernel
theorem dX11_draw_31 : decode cX11_draw 31 = .ok (.invokevirtual 116, 3) := by decide +kernel
theorem dX11_draw_34 : decode cX11_draw 34 = .ok (.ifCond .eq 16, 3) := by decide +kernel
theorem dX11_draw_37 : decode cX11_draw 37 = .ok (.aload_n 0, 1) := by decide +kernel
theorem dX11_draw_38 : decode cX11_draw 38 = .ok (.getfield 31, 3) := by decide +kernel
theorem dX11_draw_41 : decode cX11_draw 41 = .ok (.iload_n 3, 1) := by decide +kernel
theorem dX11_draw_42 : decode cX11_draw 42 = .ok (.iload 4, 2) := by decide +kernel
theorem dX11_draw_44 : decode cX11_draw 44 = .ok (.invokevirtual 116, 3) := by decide +kernel
theorem dX11_draw_47 : decode cX11_draw 47 = .ok (.ifCond .ne 10, 3) := by decide +kernel
theorem dX11_draw_50 : decode cX11_draw 50 = .ok (.aload_n 0, 1) := by decide +kernel
theorem dX11_draw_51 : decode cX11_draw 51 = .ok (.bipush (-2), 2) := by decide +kernel
theorem dX11_draw_53 : decode cX11_draw 53 = .ok (.invokevirtual 104, 3) := by decide +kernel
theorem dX11_draw_56 : decode cX11_draw 56 = .ok (.ireturn, 1) := by decide +kernel
theorem dX11_draw_57 : decode cX11_draw 57 = .ok (.aload_n 0, 1) := by decide +kernel
theorem dX11_draw_58 : decode cX11_draw 58 = .ok (.aload_n 0, 1) := by decide +kernel
theorem dX11_draw_59 : decode cX11_draw 59 = .ok (.getfield 31, 3) := by decide +kernel
theorem dX11_draw_62 : decode cX11_draw 62 = .ok (.iload_n 1, 1) := by decide +kernel
theorem dX11_draw_63 : decode cX11_draw 63 = .ok (.iload_n 2, 1) := by decide +kernel
theorem dX11_draw_64 : decode cX11_draw 64 = .ok (.iload_n 3, 1) := by decide +kernel
theorem dX11_draw_65 : decode cX11_draw 65 = .ok (.iload 4, 2) := by decide +kernel
theorem dX11_draw_67 : decode cX11_draw 67 = .ok (.iload 5, 2) := by decide +kernel
theorem dX11_draw_69 : decode cX11_draw 69 = .ok (.invokevirtual 120, 3) := by decide +kernel
theorem dX11_draw_72 : decode cX11_draw 72 = .ok (.invokevirtual 104, 3) := by decide +kernel
theorem dX11_draw_75 : decode cX11_draw 75 = .ok (.ireturn, 1) := by decide +kernel
theorem dX11_cell_0 : decode cX11_cell 0 = .ok (.aload_n 0, 1) := by decide +kernel
theorem dX11_cell_1 : decode cX11_cell 1 = .ok (.getfield 31, 3) := by decide +kernel
theorem dX11_cell_4 : decode cX11_cell 4 = .ok (.iload_n 1, 1) := by decide +kernel
theorem dX11_cell_5 : decode cX11_cell 5 = .ok (.iload_n 2, 1) := by decide +kernel
theorem dX11_cell_6 : decode cX11_cell 6 = .ok (.invokevirtual 116, 3) := by decide +kernel
theorem dX11_cell_9 : decode cX11_cell 9 = .ok (.ifCond .ne 5, 3) := by decide +kernel
theorem dX11_cell_12 : decode cX11_cell 12 = .ok (.iconst (-1), 1) := by decide +kernel
theorem dX11_cell_13 : decode cX11_cell 13 = .ok (.ireturn, 1) := by decide +kernel
theorem dX11_cell_14 : decode cX11_cell 14 = .ok (.iload_n 3, 1) := by decide +kernel
theorem dX11_cell_15 : decode cX11_cell 15 = .ok (.lookupswitch 52 #[(0, 25), (1, 35)], 25) := by decide +kernel
theorem dX11_cell_40 : decode cX11_cell 40 = .ok (.aload_n 0, 1) := by decide +kernel
theorem dX11_cell_41 : decode cX11_cell 41 = .ok (.getfield 31, 3) := by decide +kernel
theorem dX11_cell_44 : decode cX11_cell 44 = .ok (.iload_n 1, 1) := by decide +kernel
theorem dX11_cell_45 : decode cX11_cell 45 = .ok (.iload_n 2, 1) := by decide +kernel
theorem dX11_cell_46 : decode cX11_cell 46 = .ok (.invokevirtual 124, 3) := by decide +kernel
theorem dX11_cell_49 : decode cX11_cell 49 = .ok (.ireturn, 1) := by decide +kernel
theorem dX11_cell_50 : decode cX11_cell 50 = .ok (.aload_n 0, 1) := by decide +kernel
theorem dX11_cell_51 : decode cX11_cell 51 = .ok (.getfield 35, 3) := by decide +kernel
theorem dX11_cell_54 : decode cX11_cell 54 = .ok (.invokevirtual 128, 3) := by decide +kernel
theorem dX11_cell_57 : decode cX11_cell 57 = .ok (.aload_n 0, 1) := by decide +kernel
theorem dX11_cell_58 : decode cX11_cell 58 = .ok (.getfield 35, 3) := by decide +kernel
theorem dX11_cell_61 : decode cX11_cell 61 = .ok (.iload_n 1, 1) := by decide +kernel
theorem dX11_cell_62 : decode cX11_cell 62 = .ok (.iload_n 2, 1) := by decide +kernel
theorem dX11_cell_63 : decode cX11_cell 63 = .ok (.invokevirtual 131, 3) := by decide +kernel
theorem dX11_cell_66 : decode cX11_cell 66 = .ok (.ireturn, 1) := by decide +kernel
theorem dX11_cell_67 : decode cX11_cell 67 = .ok (.iconst (-1), 1) := by decide +kernel
theorem dX11_cell_68 : decode cX11_cell 68 = .ok (.ireturn, 1) := by decide +kernel
theorem dX11_repair_0 : decode cX11_repair 0 = .ok (.aload_n 0, 1) := by decide +kernel
theorem dX11_repair_1 : decode cX11_repair 1 = .ok (.getfield 31, 3) := by decide +kernel
theorem dX11_repair_4 : decode cX11_repair 4 = .ok (.iload_n 1, 1) := by decide +kernel
theorem dX11_repair_5 : decode cX11_repair 5 = .ok (.iload_n 2, 1) := by decide +kernel
theorem dX11_repair_6 : decode cX11_repair 6 = .ok (.invokevirtual 116, 3) := by decide +kernel
theorem dX11_repair_9 : decode cX11_repair 9 = .ok (.ifCond .ne 10, 3) := by decide +kernel
theorem dX11_repair_12 : decode cX11_repair 12 = .ok (.aload_n 0, 1) := by decide +kernel
theorem dX11_repair_13 : decode cX11_repair 13 = .ok (.bipush (-2), 2) := by decide +kernel
theorem dX11_repair_15 : decode cX11_repair 15 = .ok (.invokevirtual 104, 3) := by decide +kernel
theorem dX11_repair_18 : decode cX11_repair 18 = .ok (.ireturn, 1) := by decide +kernel
theorem dX11_repair_19 : decode cX11_repair 19 = .ok (.aload_n 0, 1) := by decide +kernel
theorem dX11_repair_20 : decode cX11_repair 20 = .ok (.getfield 35, 3) := by decide +kernel
theorem dX11_repair_23 : decode cX11_repair 23 = .ok (.invokevirtual 128, 3) := by decide +kernel
theorem dX11_repair_26 : decode cX11_repair 26 = .ok (.aload_n 0, 1) := by decide +kernel
theorem dX11_repair_27 : decode cX11_repair 27 = .ok (.getfield 35, 3) := by decide +kernel
theorem dX11_repair_30 : decode cX11_repair 30 = .ok (.iload_n 1, 1) := by decide +kernel
theorem dX11_repair_31 : decode cX11_repair 31 = .ok (.iload_n 2, 1) := by decide +kernel
theorem dX11_repair_32 : decode cX11_repair 32 = .ok (.invokevirtual 134, 3) := by decide +kernel
theorem dX11_repair_35 : decode cX11_repair 35 = .ok (.ifCond .ne 10, 3) := by decide +kernel
theorem dX11_repair_38 : decode cX11_repair 38 = .ok (.aload_n 0, 1) := by decide +kernel
theorem dX11_repair_39 : decode cX11_repair 39 = .ok (.bipush (-3), 2) := by decide +kernel
theorem dX11_repair_41 : decode cX11_repair 41 = .ok (.invokevirtual 104, 3) := by decide +kernel
theorem dX11_repair_44 : decode cX11_repair 44 = .ok (.ireturn, 1) := by decide +kernel
theorem dX11_repair_45 : decode cX11_repair 45 = .ok (.aload_n 0, 1) := by decide +kernel
theorem dX11_repair_46 : decode cX11_repair 46 = .ok (.aload_n 0, 1) := by decide +kernel
theorem dX11_repair_47 : decode cX11_repair 47 = .ok (.getfield 35, 3) := by decide +kernel
theorem dX11_repair_50 : decode cX11_repair 50 = .ok (.iload_n 1, 1) := by decide +kernel
theorem dX11_repair_51 : decode cX11_repair 51 = .ok (.iload_n 2, 1) := by decide +kernel
theorem dX11_repair_52 : decode cX11_repair 52 = .ok (.invokevirtual 137, 3) := by decide +kernel
theorem dX11_repair_55 : decode cX11_repair 55 = .ok (.invokevirtual 104, 3) := by decide +kernel
theorem dX11_repair_58 : decode cX11_repair 58 = .ok (.ireturn, 1) := by decide +kernel
theorem dX11_wall_0 : decode cX11_wall 0 = .ok (.aload_n 0, 1) := by decide +kernel
theorem dX11_wall_1 : decode cX11_wall 1 = .ok (.getfield 35, 3) := by decide +kernel
theorem dX11_wall_4 : decode cX11_wall 4 = .ok (.invokevirtual 128, 3) := by decide +kernel
theorem dX11_wall_7 : decode cX11_wall 7 = .ok (.iload_n 1, 1) := by decide +kernel
theorem dX11_wall_8 : decode cX11_wall 8 = .ok (.iconst (-1), 1) := by decide +kernel
theorem dX11_wall_9 : decode cX11_wall 9 = .ok (.if_icmp .ne 16, 3) := by decide +kernel
theorem dX11_wall_12 : decode cX11_wall 12 = .ok (.iload_n 2, 1) := by decide +kernel
theorem dX11_wall_13 : decode cX11_wall 13 = .ok (.iconst (-1), 1) := by decide +kernel
theorem dX11_wall_14 : decode cX11_wall 14 = .ok (.if_icmp .ne 11, 3) := by decide +kernel
theorem dX11_wall_17 : decode cX11_wall 17 = .ok (.aload_n 0, 1) := by decide +kernel
theorem dX11_wall_18 : decode cX11_wall 18 = .ok (.getfield 35, 3) := by decide +kernel
theorem dX11_wall_21 : decode cX11_wall 21 = .ok (.invokevirtual 140, 3) := by decide +kernel
theorem dX11_wall_24 : decode cX11_wall 24 = .ok (.ireturn, 1) := by decide +kernel
theorem dX11_wall_25 : decode cX11_wall 25 = .ok (.aload_n 0, 1) := by decide +kernel
theorem dX11_wall_26 : decode cX11_wall 26 = .ok (.getfield 31, 3) := by decide +kernel
theorem dX11_wall_29 : decode cX11_wall 29 = .ok (.iload_n 1, 1) := by decide +kernel
theorem dX11_wall_30 : decode cX11_wall 30 = .ok (.iload_n 2, 1) := by decide +kernel
theorem dX11_wall_31 : decode cX11_wall 31 = .ok (.invokevirtual 116, 3) := by decide +kernel
theorem dX11_wall_34 : decode cX11_wall 34 = .ok (.ifCond .eq 15, 3) := by decide +kernel
theorem dX11_wall_37 : decode cX11_wall 37 = .ok (.aload_n 0, 1) := by decide +kernel
theorem dX11_wall_38 : decode cX11_wall 38 = .ok (.getfield 35, 3) := by decide +kernel
theorem dX11_wall_41 : decode cX11_wall 41 = .ok (.iload_n 1, 1) := by decide +kernel
theorem dX11_wall_42 : decode cX11_wall 42 = .ok (.iload_n 2, 1) := by decide +kernel
theorem dX11_wall_43 : decode cX11_wall 43 = .ok (.invokevirtual 144, 3) := by decide +kernel
theorem dX11_wall_46 : decode cX11_wall 46 = .ok (.goto 4, 3) := by decide +kernel
theorem dX11_wall_49 : decode cX11_wall 49 = .ok (.iconst (-1), 1) := by decide +kernel
theorem dX11_wall_50 : decode cX11_wall 50 = .ok (.ireturn, 1) := by decide +kernel
theorem dX11_many_0 : decode cX11_many 0 = .ok (.aload_n 0, 1) := by decide +kernel
theorem dX11_many_1 : decode cX11_many 1 = .ok (.getfield 35, 3) := by decide +kernel
theorem dX11_many_4 : decode cX11_many 4 = .ok (.invokevirtual 128, 3) := by decide +kernel
theorem dX11_many_7 : decode cX11_many 7 = .ok (.iload_n 1, 1) := by decide +kernel
theorem dX11_many_8 : decode cX11_many 8 = .ok (.tableswitch 121 0 6 #[44, 62, 71, 80, 90, 100, 109], 44) := by decide +kernel
theorem dX11_many_52 : decode cX11_many 52 = .ok (.aload_n 0, 1) := by decide +kernel
theorem dX11_many_53 : decode cX11_many 53 = .ok (.getfield 35, 3) := by decide +kernel
theorem dX11_many_56 : decode cX11_many 56 = .ok (.iconst 1, 1) := by decide +kernel
theorem dX11_many_57 : decode cX11_many 57 = .ok (.invokevirtual 147, 3) := by decide +kernel
theorem dX11_many_60 : decode cX11_many 60 = .ok (.aload_n 0, 1) := by decide +kernel
theorem dX11_many_61 : decode cX11_many 61 = .ok (.getfield 35, 3) := by decide +kernel
theorem dX11_many_64 : decode cX11_many 64 = .ok (.iconst 5, 1) := by decide +kernel
theorem dX11_many_65 : decode cX11_many 65 = .ok (.invokevirtual 147, 3) := by decide +kernel
theorem dX11_many_68 : decode cX11_many 68 = .ok (.iadd, 1) := by decide +kernel
theorem dX11_many_69 : decode cX11_many 69 = .ok (.ireturn, 1) := by decide +kernel
theorem dX11_many_70 : decode cX11_many 70 = .ok (.aload_n 0, 1) := by decide +kernel
theorem dX11_many_71 : decode cX11_many 71 = .ok (.getfield 35, 3) := by decide +kernel
theorem dX11_many_74 : decode cX11_many 74 = .ok (.iconst 2, 1) := by decide +kernel
theorem dX11_many_75 : decode cX11_many 75 = .ok (.invokevirtual 147, 3) := by decide +kernel
theorem dX11_many_78 : decode cX11_many 78 = .ok (.ireturn, 1) := by decide +kernel
theorem dX11_many_79 : decode cX11_many 79 = .ok (.aload_n 0, 1) := by decide +kernel
theorem dX11_many_80 : decode cX11_many 80 = .ok (.getfield 35, 3) := by decide +kernel
theorem dX11_many_83 : decode cX11_many 83 = .ok (.iconst 3, 1) := by decide +kernel
theorem dX11_many_84 : decode cX11_many 84 = .ok (.invokevirtual 147, 3) := by decide +kernel
theorem dX11_many_87 : decode cX11_many 87 = .ok (.ireturn, 1) := by decide +kernel
theorem dX11_many_88 : decode cX11_many 88 = .ok (.aload_n 0, 1) := by decide +kernel
theorem dX11_many_89 : decode cX11_many 89 = .ok (.getfield 31, 3) := by decide +kernel
theorem dX11_many_92 : decode cX11_many 92 = .ok (.iconst 1, 1) := by decide +kernel
theorem dX11_many_93 : decode cX11_many 93 = .ok (.iconst 1, 1) := by decide +kernel
theorem dX11_many_94 : decode cX11_many 94 = .ok (.invokevirtual 150, 3) := by decide +kernel
theorem dX11_many_97 : decode cX11_many 97 = .ok (.ireturn, 1) := by decide +kernel
theorem dX11_many_98 : decode cX11_many 98 = .ok (.aload_n 0, 1) := by decide +kernel
theorem dX11_many_99 : decode cX11_many 99 = .ok (.getfield 31, 3) := by decide +kernel
theorem dX11_many_102 : decode cX11_many 102 = .ok (.iconst 2, 1) := by decide +kernel
theorem dX11_many_103 : decode cX11_many 103 = .ok (.iconst 2, 1) := by decide +kernel
theorem dX11_many_104 : decode cX11_many 104 = .ok (.invokevirtual 150, 3) := by decide +kernel
theorem dX11_many_107 : decode cX11_many 107 = .ok (.ireturn, 1) := by decide +kernel
theorem dX11_many_108 : decode cX11_many 108 = .ok (.aload_n 0, 1) := by decide +kernel
theorem dX11_many_109 : decode cX11_many 109 = .ok (.getfield 35, 3) := by decide +kernel
theorem dX11_many_112 : decode cX11_many 112 = .ok (.iconst 5, 1) := by decide +kernel
theorem dX11_many_113 : decode cX11_many 113 = .ok (.invokevirtual 147, 3) := by decide +kernel
theorem dX11_many_116 : decode cX11_many 116 = .ok (.ireturn, 1) := by decide +kernel
theorem dX11_many_117 : decode cX11_many 117 = .ok (.aload_n 0, 1) := by decide +kernel
theorem dX11_many_118 : decode cX11_many 118 = .ok (.getfield 31, 3) := by decide +kernel
theorem dX11_many_121 : decode cX11_many 121 = .ok (.bipush 10, 2) := by decide +kernel
theorem dX11_many_123 : decode cX11_many 123 = .ok (.bipush 17, 2) := by decide +kernel
theorem dX11_many_125 : decode cX11_many 125 = .ok (.invokevirtual 150, 3) := by decide +kernel
theorem dX11_many_128 : decode cX11_many 128 = .ok (.ireturn, 1) := by decide +kernel
theorem dX11_many_129 : decode cX11_many 129 = .ok (.iconst (-1), 1) := by decide +kernel
theorem dX11_many_130 : decode cX11_many 130 = .ok (.ireturn, 1) := by decide +kernel
theorem dX11_off_0 : decode cX11_off 0 = .ok (.aload_n 0, 1) := by decide +kernel
theorem dX11_off_1 : decode cX11_off 1 = .ok (.getfield 39, 3) := by decide +kernel
theorem dX11_off_4 : decode cX11_off 4 = .ok (.invokevirtual 152, 3) := by decide +kernel
theorem dX11_off_7 : decode cX11_off 7 = .ok (.iload_n 1, 1) := by decide +kernel
theorem dX11_off_8 : decode cX11_off 8 = .ok (.iconst (-1), 1) := by decide +kernel
theorem dX11_off_9 : decode cX11_off 9 = .ok (.if_icmp .ne 9, 3) := by decide +kernel
theorem dX11_off_12 : decode cX11_off 12 = .ok (.aload_n 0, 1) := by decide +kernel
theorem dX11_off_13 : decode cX11_off 13 = .ok (.iload_n 2, 1) := by decide +kernel
theorem dX11_off_14 : decode cX11_off 14 = .ok (.invokevirtual 153, 3) := by decide +kernel
theorem dX11_off_17 : decode cX11_off 17 = .ok (.ireturn, 1) := by decide +kernel
theorem dX11_off_18 : decode cX11_off 18 = .ok (.iload_n 2, 1) := by decide +kernel
theorem dX11_off_19 : decode cX11_off 19 = .ok (.lookupswitch 43 #[(0, 25), (1, 34)], 25) := by decide +kernel
theorem dX11_off_44 : decode cX11_off 44 = .ok (.aload_n 0, 1) := by decide +kernel
theorem dX11_off_45 : decode cX11_off 45 = .ok (.getfield 39, 3) := by decide +kernel
theorem dX11_off_48 : decode cX11_off 48 = .ok (.iload_n 1, 1) := by decide +kernel
theorem dX11_off_49 : decode cX11_off 49 = .ok (.invokevirtual 156, 3) := by decide +kernel
theorem dX11_off_52 : decode cX11_off 52 = .ok (.ireturn, 1) := by decide +kernel
theorem dX11_off_53 : decode cX11_off 53 = .ok (.aload_n 0, 1) := by decide +kernel
theorem dX11_off_54 : decode cX11_off 54 = .ok (.getfield 39, 3) := by decide +kernel
theorem dX11_off_57 : decode cX11_off 57 = .ok (.iload_n 1, 1) := by decide +kernel
theorem dX11_off_58 : decode cX11_off 58 = .ok (.invokevirtual 159, 3) := by decide +kernel
theorem dX11_off_61 : decode cX11_off 61 = .ok (.ireturn, 1) := by decide +kernel
theorem dX11_off_62 : decode cX11_off 62 = .ok (.iconst (-1), 1) := by decide +kernel
theorem dX11_off_63 : decode cX11_off 63 = .ok (.ireturn, 1) := by decide +kernel
theorem dX11_lot_0 : decode cX11_lot 0 = .ok (.iload_n 1, 1) := by decide +kernel
theorem dX11_lot_1 : decode cX11_lot 1 = .ok (.sipush 1000, 3) := by decide +kernel
theorem dX11_lot_4 : decode cX11_lot 4 = .ok (.invokestatic 162, 3) := by decide +kernel
theorem dX11_lot_7 : decode cX11_lot 7 = .ok (.ifCond .eq 42, 3) := by decide +kernel
theorem dX11_lot_10 : decode cX11_lot 10 = .ok (.iload_n 2, 1) := by decide +kernel
theorem dX11_lot_11 : decode cX11_lot 11 = .ok (.sipush 1000, 3) := by decide +kernel
theorem dX11_lot_14 : decode cX11_lot 14 = .ok (.invokestatic 162, 3) := by decide +kernel
theorem dX11_lot_17 : decode cX11_lot 17 = .ok (.ifCond .eq 32, 3) := by decide +kernel
theorem dX11_lot_20 : decode cX11_lot 20 = .ok (.iload_n 1, 1) := by decide +kernel
theorem dX11_lot_21 : decode cX11_lot 21 = .ok (.iload_n 2, 1) := by decide +kernel
theorem dX11_lot_22 : decode cX11_lot 22 = .ok (.iadd, 1) := by decide +kernel
theorem dX11_lot_23 : decode cX11_lot 23 = .ok (.sipush 1000, 3) := by decide +kernel
theorem dX11_lot_26 : decode cX11_lot 26 = .ok (.if_icmp .gt 23, 3) := by decide +kernel
theorem dX11_lot_29 : decode cX11_lot 29 = .ok (.iload_n 3, 1) := by decide +kernel
theorem dX11_lot_30 : decode cX11_lot 30 = .ok (.sipush 1000, 3) := by decide +kernel
theorem dX11_lot_33 : decode cX11_lot 33 = .ok (.invokestatic 162, 3) := by decide +kernel
theorem dX11_lot_36 : decode cX11_lot 36 = .ok (.ifCond .eq 13, 3) := by decide +kernel
theorem dX11_lot_39 : decode cX11_lot 39 = .ok (.iload 4, 2) := by decide +kernel
theorem dX11_lot_41 : decode cX11_lot 41 = .ok (.bipush 40, 2) := by decide +kernel
theorem dX11_lot_43 : decode cX11_lot 43 = .ok (.invokestatic 162, 3) := by decide +kernel
theorem dX11_lot_46 : decode cX11_lot 46 = .ok (.ifCond .ne 9, 3) := by decide +kernel
theorem dX11_lot_49 : decode cX11_lot 49 = .ok (.aload_n 0, 1) := by decide +kernel
theorem dX11_lot_50 : decode cX11_lot 50 = .ok (.iconst (-1), 1) := by decide +kernel
theorem dX11_lot_51 : decode cX11_lot 51 = .ok (.invokevirtual 104, 3) := by decide +kernel
theorem dX11_lot_54 : decode cX11_lot 54 = .ok (.ireturn, 1) := by decide +kernel
theorem dX11_lot_55 : decode cX11_lot 55 = .ok (.aload_n 0, 1) := by decide +kernel
theorem dX11_lot_56 : decode cX11_lot 56 = .ok (.getfield 43, 3) := by decide +kernel
theorem dX11_lot_59 : decode cX11_lot 59 = .ok (.invokevirtual 165, 3) := by decide +kernel
theorem dX11_lot_62 : decode cX11_lot 62 = .ok (.ifCond .eq 10, 3) := by decide +kernel
theorem dX11_lot_65 : decode cX11_lot 65 = .ok (.aload_n 0, 1) := by decide +kernel
theorem dX11_lot_66 : decode cX11_lot 66 = .ok (.bipush (-5), 2) := by decide +kernel
theorem dX11_lot_68 : decode cX11_lot 68 = .ok (.invokevirtual 104, 3) := by decide +kernel
theorem dX11_lot_71 : decode cX11_lot 71 = .ok (.ireturn, 1) := by decide +kernel
theorem dX11_lot_72 : decode cX11_lot 72 = .ok (.aload_n 0, 1) := by decide +kernel
theorem dX11_lot_73 : decode cX11_lot 73 = .ok (.aload_n 0, 1) := by decide +kernel
theorem dX11_lot_74 : decode cX11_lot 74 = .ok (.getfield 43, 3) := by decide +kernel
theorem dX11_lot_77 : decode cX11_lot 77 = .ok (.iload_n 1, 1) := by decide +kernel
theorem dX11_lot_78 : decode cX11_lot 78 = .ok (.iload_n 2, 1) := by decide +kernel
theorem dX11_lot_79 : decode cX11_lot 79 = .ok (.iload_n 3, 1) := by decide +kernel
theorem dX11_lot_80 : decode cX11_lot 80 = .ok (.iload 4, 2) := by decide +kernel
theorem dX11_lot_82 : decode cX11_lot 82 = .ok (.invokevirtual 169, 3) := by decide +kernel
theorem dX11_lot_85 : decode cX11_lot 85 = .ok (.invokevirtual 104, 3) := by decide +kernel
theorem dX11_lot_88 : decode cX11_lot 88 = .ok (.ireturn, 1) := by decide +kernel
theorem dX11_mix_0 : decode cX11_mix 0 = .ok (.iload_n 1, 1) := by decide +kernel
theorem dX11_mix_1 : decode cX11_mix 1 = .ok (.iconst 1, 1) := by decide +kernel
theorem dX11_mix_2 : decode cX11_mix 2 = .ok (.if_icmp .lt 45, 3) := by decide +kernel
theorem dX11_mix_5 : decode cX11_mix 5 = .ok (.iload_n 1, 1) := by decide +kernel
theorem dX11_mix_6 : decode cX11_mix 6 = .ok (.bipush 40, 2) := by decide +kernel
theorem dX11_mix_8 : decode cX11_mix 8 = .ok (.if_icmp .gt 39, 3) := by decide +kernel
theorem dX11_mix_11 : decode cX11_mix 11 = .ok (.iload_n 2, 1) := by decide +kernel
theorem dX11_mix_12 : decode cX11_mix 12 = .ok (.iload_n 3, 1) := by decide +kernel
theorem dX11_mix_13 : decode cX11_mix 13 = .ok (.if_icmp .gt 34, 3) := by decide +kernel
theorem dX11_mix_16 : decode cX11_mix 16 = .ok (.iload_n 2, 1) := by decide +kernel
theorem dX11_mix_17 : decode cX11_mix 17 = .ok (.sipush 1000, 3) := by decide +kernel
theorem dX11_mix_20 : decode cX11_mix 20 = .ok (.invokestatic 162, 3) := by decide +kernel
theorem dX11_mix_23 : decode cX11_mix 23 = .ok (.ifCond .eq 24, 3) := by decide +kernel
theorem dX11_mix_26 : decode cX11_mix 26 = .ok (.iload_n 3, 1) := by decide +kernel
theorem dX11_mix_27 : decode cX11_mix 27 = .ok (.sipush 1000, 3) := by decide +kernel
theorem dX11_mix_30 : decode cX11_mix 30 = .ok (.invokestatic 162, 3) := by decide +kernel
theorem dX11_mix_33 : decode cX11_mix 33 = .ok (.ifCond .eq 14, 3) := by decide +kernel
theorem dX11_mix_36 : decode cX11_mix 36 = .ok (.iload 4, 2) := by decide +kernel
theorem dX11_mix_38 : decode cX11_mix 38 = .ok (.sipush 1000, 3) := by decide +kernel
theorem dX11_mix_41 : decode cX11_mix 41 = .ok (.invokestatic 162, 3) := by decide +kernel
theorem dX11_mix_44 : decode cX11_mix 44 = .ok (.ifCond .ne 9, 3) := by decide +kernel
theorem dX11_mix_47 : decode cX11_mix 47 = .ok (.aload_n 0, 1) := by decide +kernel
theorem dX11_mix_48 : decode cX11_mix 48 = .ok (.iconst (-1), 1) := by decide +kernel
theorem dX11_mix_49 : decode cX11_mix 49 = .ok (.invokevirtual 104, 3) := by decide +kernel
theorem dX11_mix_52 : decode cX11_mix 52 = .ok (.ireturn, 1) := by decide +kernel
theorem dX11_mix_53 : decode cX11_mix 53 = .ok (.aload_n 0, 1) := by decide +kernel
theorem dX11_mix_54 : decode cX11_mix 54 = .ok (.getfield 50, 3) := by decide +kernel
theorem dX11_mix_57 : decode cX11_mix 57 = .ok (.iload_n 1, 1) := by decide +kernel
theorem dX11_mix_58 : decode cX11_mix 58 = .ok (.iload_n 2, 1) := by decide +kernel
theorem dX11_mix_59 : decode cX11_mix 59 = .ok (.iload_n 3, 1) := by decide +kernel
theorem dX11_mix_60 : decode cX11_mix 60 = .ok (.iload 4, 2) := by decide +kernel
theorem dX11_mix_62 : decode cX11_mix 62 = .ok (.invokevirtual 173, 3) := by decide +kernel
theorem dX11_mix_65 : decode cX11_mix 65 = .ok (.ifCond .ne 10, 3) := by decide +kernel
theorem dX11_mix_68 : decode cX11_mix 68 = .ok (.aload_n 0, 1) := by decide +kernel
theorem dX11_mix_69 : decode cX11_mix 69 = .ok (.bipush (-6), 2) := by decide +kernel
theorem dX11_mix_71 : decode cX11_mix 71 = .ok (.invokevirtual 104, 3) := by decide +kernel
theorem dX11_mix_74 : decode cX11_mix 74 = .ok (.ireturn, 1) := by decide +kernel
theorem dX11_mix_75 : decode cX11_mix 75 = .ok (.iconst 0, 1) := by decide +kernel
theorem dX11_mix_76 : decode cX11_mix 76 = .ok (.istore 5, 2) := by decide +kernel
theorem dX11_mix_78 : decode cX11_mix 78 = .ok (.iload 5, 2) := by decide +kernel
theorem dX11_mix_80 : decode cX11_mix 80 = .ok (.bipush 6, 2) := by decide +kernel
theorem dX11_mix_82 : decode cX11_mix 82 = .ok (.if_icmp .ge 27, 3) := by decide +kernel
theorem dX11_mix_85 : decode cX11_mix 85 = .ok (.aload_n 0, 1) := by decide +kernel
theorem dX11_mix_86 : decode cX11_mix 86 = .ok (.getfield 54, 3) := by decide +kernel
theorem dX11_mix_89 : decode cX11_mix 89 = .ok (.iload 5, 2) := by decide +kernel
theorem dX11_mix_91 : decode cX11_mix 91 = .ok (.aload_n 0, 1) := by decide +kernel
theorem dX11_mix_92 : decode cX11_mix 92 = .ok (.getfield 50, 3) := by decide +kernel
theorem dX11_mix_95 : decode cX11_mix 95 = .ok (.iload 5, 2) := by decide +kernel
theorem dX11_mix_97 : decode cX11_mix 97 = .ok (.invokevirtual 177, 3) := by decide +kernel
theorem dX11_mix_100 : decode cX11_mix 100 = .ok (.invokevirtual 180, 3) := by decide +kernel
theorem dX11_mix_103 : decode cX11_mix 103 = .ok (.iinc 5 1, 3) := by decide +kernel
theorem dX11_mix_106 : decode cX11_mix 106 = .ok (.goto (-28), 3) := by decide +kernel
theorem dX11_mix_109 : decode cX11_mix 109 = .ok (.aload_n 0, 1) := by decide +kernel
theorem dX11_mix_110 : decode cX11_mix 110 = .ok (.aload_n 0, 1) := by decide +kernel
theorem dX11_mix_111 : decode cX11_mix 111 = .ok (.getfield 50, 3) := by decide +kernel
theorem dX11_mix_114 : decode cX11_mix 114 = .ok (.invokevirtual 183, 3) := by decide +kernel
theorem dX11_mix_117 : decode cX11_mix 117 = .ok (.invokevirtual 104, 3) := by decide +kernel
theorem dX11_mix_120 : decode cX11_mix 120 = .ok (.ireturn, 1) := by decide +kernel
theorem dX11_mixed_0 : decode cX11_mixed 0 = .ok (.aload_n 0, 1) := by decide +kernel
theorem dX11_mixed_1 : decode cX11_mixed 1 = .ok (.getfield 54, 3) := by decide +kernel
theorem dX11_mixed_4 : decode cX11_mixed 4 = .ok (.invokevirtual 186, 3) := by decide +kernel
theorem dX11_mixed_7 : decode cX11_mixed 7 = .ok (.ifCond .ne 5, 3) := by decide +kernel
theorem dX11_mixed_10 : decode cX11_mixed 10 = .ok (.iconst (-1), 1) := by decide +kernel
theorem dX11_mixed_11 : decode cX11_mixed 11 = .ok (.ireturn, 1) := by decide +kernel
theorem dX11_mixed_12 : decode cX11_mixed 12 = .ok (.iload_n 1, 1) := by decide +kernel
theorem dX11_mixed_13 : decode cX11_mixed 13 = .ok (.iconst (-1), 1) := by decide +kernel
theorem dX11_mixed_14 : decode cX11_mixed 14 = .ok (.if_icmp .ne 11, 3) := by decide +kernel
theorem dX11_mixed_17 : decode cX11_mixed 17 = .ok (.aload_n 0, 1) := by decide +kernel
theorem dX11_mixed_18 : decode cX11_mixed 18 = .ok (.getfield 54, 3) := by decide +kernel
theorem dX11_mixed_21 : decode cX11_mixed 21 = .ok (.invokevirtual 189, 3) := by decide +kernel
theorem dX11_mixed_24 : decode cX11_mixed 24 = .ok (.ireturn, 1) := by decide +kernel
theorem dX11_mixed_25 : decode cX11_mixed 25 = .ok (.aload_n 0, 1) := by decide +kernel
theorem dX11_mixed_26 : decode cX11_mixed 26 = .ok (.getfield 43, 3) := by decide +kernel
theorem dX11_mixed_29 : decode cX11_mixed 29 = .ok (.iload_n 1, 1) := by decide +kernel
theorem dX11_mixed_30 : decode cX11_mixed 30 = .ok (.invokevirtual 192, 3) := by decide +kernel
theorem dX11_mixed_33 : decode cX11_mixed 33 = .ok (.ifCond .eq 14, 3) := by decide +kernel
theorem dX11_mixed_36 : decode cX11_mixed 36 = .ok (.aload_n 0, 1) := by decide +kernel
theorem dX11_mixed_37 : decode cX11_mixed 37 = .ok (.getfield 54, 3) := by decide +kernel
theorem dX11_mixed_40 : decode cX11_mixed 40 = .ok (.iload_n 1, 1) := by decide +kernel
theorem dX11_mixed_41 : decode cX11_mixed 41 = .ok (.invokevirtual 194, 3) := by decide +kernel
theorem dX11_mixed_44 : decode cX11_mixed 44 = .ok (.goto 4, 3) := by decide +kernel
theorem dX11_mixed_47 : decode cX11_mixed 47 = .ok (.iconst (-1), 1) := by decide +kernel
theorem dX11_mixed_48 : decode cX11_mixed 48 = .ok (.ireturn, 1) := by decide +kernel
theorem dX11_pour_0 : decode cX11_pour 0 = .ok (.aload_n 0, 1) := by decide +kernel
theorem dX11_pour_1 : decode cX11_pour 1 = .ok (.getfield 54, 3) := by decide +kernel
theorem dX11_pour_4 : decode cX11_pour 4 = .ok (.invokevirtual 186, 3) := by decide +kernel
theorem dX11_pour_7 : decode cX11_pour 7 = .ok (.ifCond .ne 10, 3) := by decide +kernel
theorem dX11_pour_10 : decode cX11_pour 10 = .ok (.aload_n 0, 1) := by decide +kernel
theorem dX11_pour_11 : decode cX11_pour 11 = .ok (.bipush (-6), 2) := by decide +kernel
theorem dX11_pour_13 : decode cX11_pour 13 = .ok (.invokevirtual 104, 3) := by decide +kernel
theorem dX11_pour_16 : decode cX11_pour 16 = .ok (.ireturn, 1) := by decide +kernel
theorem dX11_pour_17 : decode cX11_pour 17 = .ok (.aload_n 0, 1) := by decide +kernel
theorem dX11_pour_18 : decode cX11_pour 18 = .ok (.getfield 54, 3) := by decide +kernel
theorem dX11_pour_21 : decode cX11_pour 21 = .ok (.invokevirtual 195, 3) := by decide +kernel
theorem dX11_pour_24 : decode cX11_pour 24 = .ok (.istore_n 1, 1) := by decide +kernel
theorem dX11_pour_25 : decode cX11_pour 25 = .ok (.aload_n 0, 1) := by decide +kernel
theorem dX11_pour_26 : decode cX11_pour 26 = .ok (.getfield 54, 3) := by decide +kernel
theorem dX11_pour_29 : decode cX11_pour 29 = .ok (.invokevirtual 198, 3) := by decide +kernel
theorem dX11_pour_32 : decode cX11_pour 32 = .ok (.aload_n 0, 1) := by decide +kernel
theorem dX11_pour_33 : decode cX11_pour 33 = .ok (.iload_n 1, 1) := by decide +kernel
theorem dX11_pour_34 : decode cX11_pour 34 = .ok (.iconst (-1), 1) := by decide +kernel
theorem dX11_pour_35 : decode cX11_pour 35 = .ok (.if_icmp .ne 8, 3) := by decide +kernel
theorem dX11_pour_38 : decode cX11_pour 38 = .ok (.bipush (-6), 2) := by decide +kernel
theorem dX11_pour_40 : decode cX11_pour 40 = .ok (.goto 4, 3) := by decide +kernel
theorem dX11_pour_43 : decode cX11_pour 43 = .ok (.iload_n 1, 1) := by decide +kernel
theorem dX11_pour_44 : decode cX11_pour 44 = .ok (.invokevirtual 104, 3) := by decide +kernel
theorem dX11_pour_47 : decode cX11_pour 47 = .ok (.ireturn, 1) := by decide +kernel
theorem dX11_left_0 : decode cX11_left 0 = .ok (.aload_n 0, 1) := by decide +kernel
theorem dX11_left_1 : decode cX11_left 1 = .ok (.getfield 43, 3) := by decide +kernel
theorem dX11_left_4 : decode cX11_left 4 = .ok (.iload_n 1, 1) := by decide +kernel
theorem dX11_left_5 : decode cX11_left 5 = .ok (.invokevirtual 192, 3) := by decide +kernel
theorem dX11_left_8 : decode cX11_left 8 = .ok (.ifCond .eq 14, 3) := by decide +kernel
theorem dX11_left_11 : decode cX11_left 11 = .ok (.aload_n 0, 1) := by decide +kernel
theorem dX11_left_12 : decode cX11_left 12 = .ok (.getfield 43, 3) := by decide +kernel
theorem dX11_left_15 : decode cX11_left 15 = .ok (.iload_n 1, 1) := by decide +kernel
theorem dX11_left_16 : decode cX11_left 16 = .ok (.invokevirtual 201, 3) := by decide +kernel
theorem dX11_left_19 : decode cX11_left 19 = .ok (.goto 4, 3) := by decide +kernel
theorem dX11_left_22 : decode cX11_left 22 = .ok (.iconst (-1), 1) := by decide +kernel
theorem dX11_left_23 : decode cX11_left 23 = .ok (.ireturn, 1) := by decide +kernel
theorem dX11_feed_0 : decode cX11_feed 0 = .ok (.aload_n 0, 1) := by decide +kernel
theorem dX11_feed_1 : decode cX11_feed 1 = .ok (.getfield 58, 3) := by decide +kernel
theorem dX11_feed_4 : decode cX11_feed 4 = .ok (.invokevirtual 204, 3) := by decide +kernel
theorem dX11_feed_7 : decode cX11_feed 7 = .ok (.bipush 20, 2) := by decide +kernel
theorem dX11_feed_9 : decode cX11_feed 9 = .ok (.iadd, 1) := by decide +kernel
theorem dX11_feed_10 : decode cX11_feed 10 = .ok (.sipush 300, 3) := by decide +kernel
theorem dX11_feed_13 : decode cX11_feed 13 = .ok (.if_icmp .le 5, 3) := by decide +kernel
theorem dX11_feed_16 : decode cX11_feed 16 = .ok (.iconst (-1), 1) := by decide +kernel
theorem dX11_feed_17 : decode cX11_feed 17 = .ok (.ireturn, 1) := by decide +kernel
theorem dX11_feed_18 : decode cX11_feed 18 = .ok (.aload_n 0, 1) := by decide +kernel
theorem dX11_feed_19 : decode cX11_feed 19 = .ok (.getfield 58, 3) := by decide +kernel
theorem dX11_feed_22 : decode cX11_feed 22 = .ok (.iload_n 1, 1) := by decide +kernel
theorem dX11_feed_23 : decode cX11_feed 23 = .ok (.invokevirtual 207, 3) := by decide +kernel
theorem dX11_feed_26 : decode cX11_feed 26 = .ok (.aload_n 0, 1) := by decide +kernel
theorem dX11_feed_27 : decode cX11_feed 27 = .ok (.getfield 58, 3) := by decide +kernel
theorem dX11_feed_30 : decode cX11_feed 30 = .ok (.iload_n 2, 1) := by decide +kernel
theorem dX11_feed_31 : decode cX11_feed 31 = .ok (.invokevirtual 207, 3) := by decide +kernel
theorem dX11_feed_34 : decode cX11_feed 34 = .ok (.aload_n 0, 1) := by decide +kernel
theorem dX11_feed_35 : decode cX11_feed 35 = .ok (.getfield 58, 3) := by decide +kernel
theorem dX11_feed_38 : decode cX11_feed 38 = .ok (.iload_n 3, 1) := by decide +kernel
theorem dX11_feed_39 : decode cX11_feed 39 = .ok (.invokevirtual 207, 3) := by decide +kernel
theorem dX11_feed_42 : decode cX11_feed 42 = .ok (.aload_n 0, 1) := by decide +kernel
theorem dX11_feed_43 : decode cX11_feed 43 = .ok (.getfield 58, 3) := by decide +kernel
theorem dX11_feed_46 : decode cX11_feed 46 = .ok (.iload 4, 2) := by decide +kernel
theorem dX11_feed_48 : decode cX11_feed 48 = .ok (.invokevirtual 207, 3) := by decide +kernel
theorem dX11_feed_51 : decode cX11_feed 51 = .ok (.aload_n 0, 1) := by decide +kernel
theorem dX11_feed_52 : decode cX11_feed 52 = .ok (.getfield 58, 3) := by decide +kernel
theorem dX11_feed_55 : decode cX11_feed 55 = .ok (.iload 5, 2) := by decide +kernel
theorem dX11_feed_57 : decode cX11_feed 57 = .ok (.invokevirtual 207, 3) := by decide +kernel
theorem dX11_feed_60 : decode cX11_feed 60 = .ok (.aload_n 0, 1) := by decide +kernel
theorem dX11_feed_61 : decode cX11_feed 61 = .ok (.getfield 58, 3) := by decide +kernel
theorem dX11_feed_64 : decode cX11_feed 64 = .ok (.invokevirtual 204, 3) := by decide +kernel
theorem dX11_feed_67 : decode cX11_feed 67 = .ok (.ireturn, 1) := by decide +kernel
theorem dX11_end_0 : decode cX11_end 0 = .ok (.iload_n 1, 1) := by decide +kernel
theorem dX11_end_1 : decode cX11_end 1 = .ok (.ifCond .lt 14, 3) := by decide +kernel
theorem dX11_end_4 : decode cX11_end 4 = .ok (.iload_n 1, 1) := by decide +kernel
theorem dX11_end_5 : decode cX11_end 5 = .ok (.aload_n 0, 1) := by decide +kernel
theorem dX11_end_6 : decode cX11_end 6 = .ok (.getfield 58, 3) := by decide +kernel
theorem dX11_end_9 : decode cX11_end 9 = .ok (.invokevirtual 204, 3) := by decide +kernel
theorem dX11_end_12 : decode cX11_end 12 = .ok (.if_icmp .le 5, 3) := by decide +kernel
theorem dX11_end_15 : decode cX11_end 15 = .ok (.iconst (-1), 1) := by decide +kernel
theorem dX11_end_16 : decode cX11_end 16 = .ok (.ireturn, 1) := by decide +kernel
theorem dX11_end_17 : decode cX11_end 17 = .ok (.aload_n 0, 1) := by decide +kernel
theorem dX11_end_18 : decode cX11_end 18 = .ok (.getfield 58, 3) := by decide +kernel
theorem dX11_end_21 : decode cX11_end 21 = .ok (.iload_n 1, 1) := by decide +kernel
theorem dX11_end_22 : decode cX11_end 22 = .ok (.invokevirtual 211, 3) := by decide +kernel
theorem dX11_end_25 : decode cX11_end 25 = .ok (.iload_n 1, 1) := by decide +kernel
theorem dX11_end_26 : decode cX11_end 26 = .ok (.ireturn, 1) := by decide +kernel
theorem dX11_rules_0 : decode cX11_rules 0 = .ok (.aload_n 0, 1) := by decide +kernel
theorem dX11_rules_1 : decode cX11_rules 1 = .ok (.aload_n 0, 1) := by decide +kernel
theorem dX11_rules_2 : decode cX11_rules 2 = .ok (.getfield 67, 3) := by decide +kernel
theorem dX11_rules_5 : decode cX11_rules 5 = .ok (.aload_n 0, 1) := by decide +kernel
theorem dX11_rules_6 : decode cX11_rules 6 = .ok (.getfield 94, 3) := by decide +kernel
theorem dX11_rules_9 : decode cX11_rules 9 = .ok (.invokevirtual 214, 3) := by decide +kernel
theorem dX11_rules_12 : decode cX11_rules 12 = .ok (.putfield 97, 3) := by decide +kernel
theorem dX11_rules_15 : decode cX11_rules 15 = .ok (.aload_n 0, 1) := by decide +kernel
theorem dX11_rules_16 : decode cX11_rules 16 = .ok (.getfield 58, 3) := by decide +kernel
theorem dX11_rules_19 : decode cX11_rules 19 = .ok (.iconst 0, 1) := by decide +kernel
theorem dX11_rules_20 : decode cX11_rules 20 = .ok (.invokevirtual 211, 3) := by decide +kernel
theorem dX11_rules_23 : decode cX11_rules 23 = .ok (.aload_n 0, 1) := by decide +kernel
theorem dX11_rules_24 : decode cX11_rules 24 = .ok (.getfield 97, 3) := by decide +kernel
theorem dX11_rules_27 : decode cX11_rules 27 = .ok (.iconst (-1), 1) := by decide +kernel
theorem dX11_rules_28 : decode cX11_rules 28 = .ok (.if_icmp .eq 10, 3) := by decide +kernel
theorem dX11_rules_31 : decode cX11_rules 31 = .ok (.aload_n 0, 1) := by decide +kernel
theorem dX11_rules_32 : decode cX11_rules 32 = .ok (.bipush (-6), 2) := by decide +kernel
theorem dX11_rules_34 : decode cX11_rules 34 = .ok (.invokevirtual 104, 3) := by decide +kernel
theorem dX11_rules_37 : decode cX11_rules 37 = .ok (.ireturn, 1) := by decide +kernel
theorem dX11_rules_38 : decode cX11_rules 38 = .ok (.aload_n 0, 1) := by decide +kernel
theorem dX11_rules_39 : decode cX11_rules 39 = .ok (.getfield 90, 3) := by decide +kernel
theorem dX11_rules_42 : decode cX11_rules 42 = .ok (.astore_n 1, 1) := by decide +kernel
theorem dX11_rules_43 : decode cX11_rules 43 = .ok (.aload_n 0, 1) := by decide +kernel
theorem dX11_rules_44 : decode cX11_rules 44 = .ok (.aload_n 0, 1) := by decide +kernel
theorem dX11_rules_45 : decode cX11_rules 45 = .ok (.getfield 94, 3) := by decide +kernel
theorem dX11_rules_48 : decode cX11_rules 48 = .ok (.putfield 90, 3) := by decide +kernel
theorem dX11_rules_51 : decode cX11_rules 51 = .ok (.aload_n 0, 1) := by decide +kernel
theorem dX11_rules_52 : decode cX11_rules 52 = .ok (.aload_n 1, 1) := by decide +kernel
theorem dX11_rules_53 : decode cX11_rules 53 = .ok (.putfield 94, 3) := by decide +kernel
theorem dX11_rules_56 : decode cX11_rules 56 = .ok (.aload_n 0, 1) := by decide +kernel
theorem dX11_rules_57 : decode cX11_rules 57 = .ok (.aload_n 0, 1) := by decide +kernel
theorem dX11_rules_58 : decode cX11_rules 58 = .ok (.getfield 90, 3) := by decide +kernel
theorem dX11_rules_61 : decode cX11_rules 61 = .ok (.invokevirtual 218, 3) := by decide +kernel
theorem dX11_rules_64 : decode cX11_rules 64 = .ok (.invokevirtual 104, 3) := by decide +kernel
theorem dX11_rules_67 : decode cX11_rules 67 = .ok (.ireturn, 1) := by decide +kernel
theorem dX11_fault_0 : decode cX11_fault 0 = .ok (.aload_n 0, 1) := by decide +kernel
theorem dX11_fault_1 : decode cX11_fault 1 = .ok (.getfield 97, 3) := by decide +kernel
theorem dX11_fault_4 : decode cX11_fault 4 = .ok (.ireturn, 1) := by decide +kernel
theorem dX11_broken_0 : decode cX11_broken 0 = .ok (.iload_n 1, 1) := by decide +kernel
theorem dX11_broken_1 : decode cX11_broken 1 = .ok (.ifCond .ge 5, 3) := by decide +kernel
theorem dX11_broken_4 : decode cX11_broken 4 = .ok (.iconst (-1), 1) := by decide +kernel
theorem dX11_broken_5 : decode cX11_broken 5 = .ok (.ireturn, 1) := by decide +kernel
theorem dX11_broken_6 : decode cX11_broken 6 = .ok (.aload_n 0, 1) := by decide +kernel
theorem dX11_broken_7 : decode cX11_broken 7 = .ok (.getfield 35, 3) := by decide +kernel
theorem dX11_broken_10 : decode cX11_broken 10 = .ok (.invokevirtual 128, 3) := by decide +kernel
theorem dX11_broken_13 : decode cX11_broken 13 = .ok (.aload_n 0, 1) := by decide +kernel
theorem dX11_broken_14 : decode cX11_broken 14 = .ok (.getfield 39, 3) := by decide +kernel
theorem dX11_broken_17 : decode cX11_broken 17 = .ok (.invokevirtual 152, 3) := by decide +kernel
theorem dX11_broken_20 : decode cX11_broken 20 = .ok (.iload_n 1, 1) := by decide +kernel
theorem dX11_broken_21 : decode cX11_broken 21 = .ok (.istore_n 2, 1) := by decide +kernel
theorem dX11_broken_22 : decode cX11_broken 22 = .ok (.iload_n 2, 1) := by decide +kernel
theorem dX11_broken_23 : decode cX11_broken 23 = .ok (.aload_n 0, 1) := by decide +kernel
theorem dX11_broken_24 : decode cX11_broken 24 = .ok (.getfield 90, 3) := by decide +kernel
theorem dX11_broken_27 : decode cX11_broken 27 = .ok (.invokevirtual 218, 3) := by decide +kernel
theorem dX11_broken_30 : decode cX11_broken 30 = .ok (.if_icmp .ge 45, 3) := by decide +kernel
theorem dX11_broken_33 : decode cX11_broken 33 = .ok (.aload_n 0, 1) := by decide +kernel
theorem dX11_broken_34 : decode cX11_broken 34 = .ok (.getfield 76, 3) := by decide +kernel
theorem dX11_broken_37 : decode cX11_broken 37 = .ok (.aload_n 0, 1) := by decide +kernel
theorem dX11_broken_38 : decode cX11_broken 38 = .ok (.getfield 90, 3) := by decide +kernel
theorem dX11_broken_41 : decode cX11_broken 41 = .ok (.iload_n 2, 1) := by decide +kernel
theorem dX11_broken_42 : decode cX11_broken 42 = .ok (.invokevirtual 219, 3) := by decide +kernel
theorem dX11_broken_45 : decode cX11_broken 45 = .ok (.aload_n 0, 1) := by decide +kernel
theorem dX11_broken_46 : decode cX11_broken 46 = .ok (.getfield 90, 3) := by decide +kernel
theorem dX11_broken_49 : decode cX11_broken 49 = .ok (.iload_n 2, 1) := by decide +kernel
theorem dX11_broken_50 : decode cX11_broken 50 = .ok (.invokevirtual 222, 3) := by decide +kernel
theorem dX11_broken_53 : decode cX11_broken 53 = .ok (.aload_n 0, 1) := by decide +kernel
theorem dX11_broken_54 : decode cX11_broken 54 = .ok (.getfield 90, 3) := by decide +kernel
theorem dX11_broken_57 : decode cX11_broken 57 = .ok (.iload_n 2, 1) := by decide +kernel
theorem dX11_broken_58 : decode cX11_broken 58 = .ok (.invokevirtual 225, 3) := by decide +kernel
theorem dX11_broken_61 : decode cX11_broken 61 = .ok (.invokevirtual 228, 3) := by decide +kernel
theorem dX11_broken_64 : decode cX11_broken 64 = .ok (.ifCond .eq 5, 3) := by decide +kernel
theorem dX11_broken_67 : decode cX11_broken 67 = .ok (.iload_n 2, 1) := by decide +kernel
theorem dX11_broken_68 : decode cX11_broken 68 = .ok (.ireturn, 1) := by decide +kernel
theorem dX11_broken_69 : decode cX11_broken 69 = .ok (.iinc 2 1, 3) := by decide +kernel
theorem dX11_broken_72 : decode cX11_broken 72 = .ok (.goto (-50), 3) := by decide +kernel
theorem dX11_broken_75 : decode cX11_broken 75 = .ok (.iconst (-1), 1) := by decide +kernel
theorem dX11_broken_76 : decode cX11_broken 76 = .ok (.ireturn, 1) := by decide +kernel
theorem dX11_vessel_0 : decode cX11_vessel 0 = .ok (.iload_n 1, 1) := by decide +kernel
theorem dX11_vessel_1 : decode cX11_vessel 1 = .ok (.ldc 232, 2) := by decide +kernel
theorem dX11_vessel_3 : decode cX11_vessel 3 = .ok (.invokestatic 162, 3) := by decide +kernel
theorem dX11_vessel_6 : decode cX11_vessel 6 = .ok (.ifCond .ne 9, 3) := by decide +kernel
theorem dX11_vessel_9 : decode cX11_vessel 9 = .ok (.aload_n 0, 1) := by decide +kernel
theorem dX11_vessel_10 : decode cX11_vessel 10 = .ok (.iconst (-1), 1) := by decide +kernel
theorem dX11_vessel_11 : decode cX11_vessel 11 = .ok (.invokevirtual 104, 3) := by decide +kernel
theorem dX11_vessel_14 : decode cX11_vessel 14 = .ok (.ireturn, 1) := by decide +kernel
theorem dX11_vessel_15 : decode cX11_vessel 15 = .ok (.aload_n 0, 1) := by decide +kernel
theorem dX11_vessel_16 : decode cX11_vessel 16 = .ok (.getfield 83, 3) := by decide +kernel
theorem dX11_vessel_19 : decode cX11_vessel 19 = .ok (.invokevirtual 233, 3) := by decide +kernel
theorem dX11_vessel_22 : decode cX11_vessel 22 = .ok (.ifCond .eq 10, 3) := by decide +kernel
theorem dX11_vessel_25 : decode cX11_vessel 25 = .ok (.aload_n 0, 1) := by decide +kernel
theorem dX11_vessel_26 : decode cX11_vessel 26 = .ok (.bipush (-5), 2) := by decide +kernel
theorem dX11_vessel_28 : decode cX11_vessel 28 = .ok (.invokevirtual 104, 3) := by decide +kernel
theorem dX11_vessel_31 : decode cX11_vessel 31 = .ok (.ireturn, 1) := by decide +kernel
theorem dX11_vessel_32 : decode cX11_vessel 32 = .ok (.aload_n 0, 1) := by decide +kernel
theorem dX11_vessel_33 : decode cX11_vessel 33 = .ok (.aload_n 0, 1) := by decide +kernel
theorem dX11_vessel_34 : decode cX11_vessel 34 = .ok (.getfield 83, 3) := by decide +kernel
theorem dX11_vessel_37 : decode cX11_vessel 37 = .ok (.iload_n 1, 1) := by decide +kernel
theorem dX11_vessel_38 : decode cX11_vessel 38 = .ok (.invokevirtual 234, 3) := by decide +kernel
theorem dX11_vessel_41 : decode cX11_vessel 41 = .ok (.invokevirtual 104, 3) := by decide +kernel
theorem dX11_vessel_44 : decode cX11_vessel 44 = .ok (.ireturn, 1) := by decide +kernel
theorem dX11_like_0 : decode cX11_like 0 = .ok (.aload_n 0, 1) := by decide +kernel
theorem dX11_like_1 : decode cX11_like 1 = .ok (.getfield 83, 3) := by decide +kernel
theorem dX11_like_4 : decode cX11_like 4 = .ok (.iload_n 1, 1) := by decide +kernel
theorem dX11_like_5 : decode cX11_like 5 = .ok (.invokevirtual 236, 3) := by decide +kernel
theorem dX11_like_8 : decode cX11_like 8 = .ok (.ifCond .eq 14, 3) := by decide +kernel
theorem dX11_like_11 : decode cX11_like 11 = .ok (.aload_n 0, 1) := by decide +kernel
theorem dX11_like_12 : decode cX11_like 12 = .ok (.getfield 83, 3) := by decide +kernel
theorem dX11_like_15 : decode cX11_like 15 = .ok (.iload_n 2, 1) := by decide +kernel
theorem dX11_like_16 : decode cX11_like 16 = .ok (.invokevirtual 236, 3) := by decide +kernel
theorem dX11_like_19 : decode cX11_like 19 = .ok (.ifCond .ne 7, 3) := by decide +kernel
theorem dX11_like_22 : decode cX11_like 22 = .ok (.sipush (-1000), 3) := by decide +kernel
theorem dX11_like_25 : decode cX11_like 25 = .ok (.ireturn, 1) := by decide +kernel
theorem dX11_like_26 : decode cX11_like 26 = .ok (.aload_n 0, 1) := by decide +kernel
theorem dX11_like_27 : decode cX11_like 27 = .ok (.getfield 83, 3) := by decide +kernel
theorem dX11_like_30 : decode cX11_like 30 = .ok (.iload_n 1, 1) := by decide +kernel
theorem dX11_like_31 : decode cX11_like 31 = .ok (.iload_n 2, 1) := by decide +kernel
theorem dX11_like_32 : decode cX11_like 32 = .ok (.invokevirtual 237, 3) := by decide +kernel
theorem dX11_like_35 : decode cX11_like 35 = .ok (.ireturn, 1) := by decide +kernel
theorem dX11_tell_0 : decode cX11_tell 0 = .ok (.iload_n 2, 1) := by decide +kernel
theorem dX11_tell_1 : decode cX11_tell 1 = .ok (.iconst (-1), 1) := by decide +kernel
theorem dX11_tell_2 : decode cX11_tell 2 = .ok (.if_icmp .lt 19, 3) := by decide +kernel
theorem dX11_tell_5 : decode cX11_tell 5 = .ok (.iload_n 2, 1) := by decide +kernel
theorem dX11_tell_6 : decode cX11_tell 6 = .ok (.bipush 8, 2) := by decide +kernel
theorem dX11_tell_8 : decode cX11_tell 8 = .ok (.if_icmp .ge 13, 3) := by decide +kernel
theorem dX11_tell_11 : decode cX11_tell 11 = .ok (.iload_n 3, 1) := by decide +kernel
theorem dX11_tell_12 : decode cX11_tell 12 = .ok (.sipush 3000, 3) := by decide +kernel
theorem dX11_tell_15 : decode cX11_tell 15 = .ok (.invokestatic 162, 3) := by decide +kernel
theorem dX11_tell_18 : decode cX11_tell 18 = .ok (.ifCond .ne 9, 3) := by decide +kernel
theorem dX11_tell_21 : decode cX11_tell 21 = .ok (.aload_n 0, 1) := by decide +kernel
theorem dX11_tell_22 : decode cX11_tell 22 = .ok (.iconst (-1), 1) := by decide +kernel
theorem dX11_tell_23 : decode cX11_tell 23 = .ok (.invokevirtual 104, 3) := by decide +kernel
theorem dX11_tell_26 : decode cX11_tell 26 = .ok (.ireturn, 1) := by decide +kernel
theorem dX11_tell_27 : decode cX11_tell 27 = .ok (.aload_n 0, 1) := by decide +kernel
theorem dX11_tell_28 : decode cX11_tell 28 = .ok (.getfield 83, 3) := by decide +kernel
theorem dX11_tell_31 : decode cX11_tell 31 = .ok (.iload_n 1, 1) := by decide +kernel
theorem dX11_tell_32 : decode cX11_tell 32 = .ok (.invokevirtual 236, 3) := by decide +kernel
theorem dX11_tell_35 : decode cX11_tell 35 = .ok (.ifCond .ne 10, 3) := by decide +kernel
theorem dX11_tell_38 : decode cX11_tell 38 = .ok (.aload_n 0, 1) := by decide +kernel
theorem dX11_tell_39 : decode cX11_tell 39 = .ok (.bipush (-2), 2) := by decide +kernel
theorem dX11_tell_41 : decode cX11_tell 41 = .ok (.invokevirtual 104, 3) := by decide +kernel
theorem dX11_tell_44 : decode cX11_tell 44 = .ok (.ireturn, 1) := by decide +kernel
theorem dX11_tell_45 : decode cX11_tell 45 = .ok (.aload_n 0, 1) := by decide +kernel
theorem dX11_tell_46 : decode cX11_tell 46 = .ok (.getfield 83, 3) := by decide +kernel
theorem dX11_tell_49 : decode cX11_tell 49 = .ok (.invokevirtual 240, 3) := by decide +kernel
theorem dX11_tell_52 : decode cX11_tell 52 = .ok (.ifCond .eq 10, 3) := by decide +kernel
theorem dX11_tell_55 : decode cX11_tell 55 = .ok (.aload_n 0, 1) := by decide +kernel
theorem dX11_tell_56 : decode cX11_tell 56 = .ok (.bipush (-5), 2) := by decide +kernel
theorem dX11_tell_58 : decode cX11_tell 58 = .ok (.invokevirtual 104, 3) := by decide +kernel
theorem dX11_tell_61 : decode cX11_tell 61 = .ok (.ireturn, 1) := by decide +kernel
theorem dX11_tell_62 : decode cX11_tell 62 = .ok (.aload_n 0, 1) := by decide +kernel
theorem dX11_tell_63 : decode cX11_tell 63 = .ok (.aload_n 0, 1) := by decide +kernel
theorem dX11_tell_64 : decode cX11_tell 64 = .ok (.getfield 83, 3) := by decide +kernel
theorem dX11_tell_67 : decode cX11_tell 67 = .ok (.iload_n 1, 1) := by decide +kernel
theorem dX11_tell_68 : decode cX11_tell 68 = .ok (.iload_n 2, 1) := by decide +kernel
theorem dX11_tell_69 : decode cX11_tell 69 = .ok (.iload_n 3, 1) := by decide +kernel
theorem dX11_tell_70 : decode cX11_tell 70 = .ok (.invokevirtual 243, 3) := by decide +kernel
theorem dX11_tell_73 : decode cX11_tell 73 = .ok (.invokevirtual 104, 3) := by decide +kernel
theorem dX11_tell_76 : decode cX11_tell 76 = .ok (.ireturn, 1) := by decide +kernel
theorem dX11_of_0 : decode cX11_of 0 = .ok (.aload_n 0, 1) := by decide +kernel
theorem dX11_of_1 : decode cX11_of 1 = .ok (.getfield 83, 3) := by decide +kernel
theorem dX11_of_4 : decode cX11_of 4 = .ok (.iload_n 1, 1) := by decide +kernel
theorem dX11_of_5 : decode cX11_of 5 = .ok (.invokevirtual 236, 3) := by decide +kernel
theorem dX11_of_8 : decode cX11_of 8 = .ok (.ifCond .eq 13, 3) := by decide +kernel
theorem dX11_of_11 : decode cX11_of 11 = .ok (.iload_n 2, 1) := by decide +kernel
theorem dX11_of_12 : decode cX11_of 12 = .ok (.sipush 3000, 3) := by decide +kernel
theorem dX11_of_15 : decode cX11_of 15 = .ok (.invokestatic 162, 3) := by decide +kernel
theorem dX11_of_18 : decode cX11_of 18 = .ok (.ifCond .ne 6, 3) := by decide +kernel
theorem dX11_of_21 : decode cX11_of 21 = .ok (.bipush (-2), 2) := by decide +kernel
theorem dX11_of_23 : decode cX11_of 23 = .ok (.ireturn, 1) := by decide +kernel
theorem dX11_of_24 : decode cX11_of 24 = .ok (.aload_n 0, 1) := by decide +kernel
theorem dX11_of_25 : decode cX11_of 25 = .ok (.getfield 83, 3) := by decide +kernel
theorem dX11_of_28 : decode cX11_of 28 = .ok (.iload_n 1, 1) := by decide +kernel
theorem dX11_of_29 : decode cX11_of 29 = .ok (.iload_n 2, 1) := by decide +kernel
theorem dX11_of_30 : decode cX11_of 30 = .ok (.invokevirtual 247, 3) := by decide +kernel
theorem dX11_of_33 : decode cX11_of 33 = .ok (.ireturn, 1) := by decide +kernel
theorem dX11_by_0 : decode cX11_by 0 = .ok (.aload_n 0, 1) := by decide +kernel
theorem dX11_by_1 : decode cX11_by 1 = .ok (.getfield 83, 3) := by decide +kernel
theorem dX11_by_4 : decode cX11_by 4 = .ok (.iload_n 1, 1) := by decide +kernel
theorem dX11_by_5 : decode cX11_by 5 = .ok (.invokevirtual 236, 3) := by decide +kernel
theorem dX11_by_8 : decode cX11_by 8 = .ok (.ifCond .eq 13, 3) := by decide +kernel
theorem dX11_by_11 : decode cX11_by 11 = .ok (.iload_n 2, 1) := by decide +kernel
theorem dX11_by_12 : decode cX11_by 12 = .ok (.sipush 3000, 3) := by decide +kernel
theorem dX11_by_15 : decode cX11_by 15 = .ok (.invokestatic 162, 3) := by decide +kernel
theorem dX11_by_18 : decode cX11_by 18 = .ok (.ifCond .ne 6, 3) := by decide +kernel
theorem dX11_by_21 : decode cX11_by 21 = .ok (.bipush (-2), 2) := by decide +kernel
theorem dX11_by_23 : decode cX11_by 23 = .ok (.ireturn, 1) := by decide +kernel
theorem dX11_by_24 : decode cX11_by 24 = .ok (.aload_n 0, 1) := by decide +kernel
theorem dX11_by_25 : decode cX11_by 25 = .ok (.getfield 83, 3) := by decide +kernel
theorem dX11_by_28 : decode cX11_by 28 = .ok (.iload_n 1, 1) := by decide +kernel
theorem dX11_by_29 : decode cX11_by 29 = .ok (.iload_n 2, 1) := by decide +kernel
theorem dX11_by_30 : decode cX11_by 30 = .ok (.invokevirtual 250, 3) := by decide +kernel
theorem dX11_by_33 : decode cX11_by 33 = .ok (.ireturn, 1) := by decide +kernel
theorem dX11_count_0 : decode cX11_count 0 = .ok (.iload_n 1, 1) := by decide +kernel
theorem dX11_count_1 : decode cX11_count 1 = .ok (.tableswitch 99 0 6 #[43, 51, 59, 67, 75, 83, 91], 43) := by decide +kernel
theorem dX11_count_44 : decode cX11_count 44 = .ok (.aload_n 0, 1) := by decide +kernel
theorem dX11_count_45 : decode cX11_count 45 = .ok (.getfield 31, 3) := by decide +kernel
theorem dX11_count_48 : decode cX11_count 48 = .ok (.invokevirtual 253, 3) := by decide +kernel
theorem dX11_count_51 : decode cX11_count 51 = .ok (.ireturn, 1) := by decide +kernel
theorem dX11_count_52 : decode cX11_count 52 = .ok (.aload_n 0, 1) := by decide +kernel
theorem dX11_count_53 : decode cX11_count 53 = .ok (.getfield 31, 3) := by decide +kernel
theorem dX11_count_56 : decode cX11_count 56 = .ok (.invokevirtual 256, 3) := by decide +kernel
theorem dX11_count_59 : decode cX11_count 59 = .ok (.ireturn, 1) := by decide +kernel
theorem dX11_count_60 : decode cX11_count 60 = .ok (.aload_n 0, 1) := by decide +kernel
theorem dX11_count_61 : decode cX11_count 61 = .ok (.getfield 43, 3) := by decide +kernel
theorem dX11_count_64 : decode cX11_count 64 = .ok (.invokevirtual 259, 3) := by decide +kernel
theorem dX11_count_67 : decode cX11_count 67 = .ok (.ireturn, 1) := by decide +kernel
theorem dX11_count_68 : decode cX11_count 68 = .ok (.aload_n 0, 1) := by decide +kernel
theorem dX11_count_69 : decode cX11_count 69 = .ok (.getfield 90, 3) := by decide +kernel
theorem dX11_count_72 : decode cX11_count 72 = .ok (.invokevirtual 218, 3) := by decide +kernel
theorem dX11_count_75 : decode cX11_count 75 = .ok (.ireturn, 1) := by decide +kernel
theorem dX11_count_76 : decode cX11_count 76 = .ok (.aload_n 0, 1) := by decide +kernel
theorem dX11_count_77 : decode cX11_count 77 = .ok (.getfield 83, 3) := by decide +kernel
theorem dX11_count_80 : decode cX11_count 80 = .ok (.invokevirtual 260, 3) := by decide +kernel
theorem dX11_count_83 : decode cX11_count 83 = .ok (.ireturn, 1) := by decide +kernel
theorem dX11_count_84 : decode cX11_count 84 = .ok (.aload_n 0, 1) := by decide +kernel
theorem dX11_count_85 : decode cX11_count 85 = .ok (.getfield 83, 3) := by decide +kernel
theorem dX11_count_88 : decode cX11_count 88 = .ok (.invokevirtual 261, 3) := by decide +kernel
theorem dX11_count_91 : decode cX11_count 91 = .ok (.ireturn, 1) := by decide +kernel
theorem dX11_count_92 : decode cX11_count 92 = .ok (.aload_n 0, 1) := by decide +kernel
theorem dX11_count_93 : decode cX11_count 93 = .ok (.getfield 58, 3) := by decide +kernel
theorem dX11_count_96 : decode cX11_count 96 = .ok (.invokevirtual 204, 3) := by decide +kernel
theorem dX11_count_99 : decode cX11_count 99 = .ok (.ireturn, 1) := by decide +kernel
theorem dX11_count_100 : decode cX11_count 100 = .ok (.iconst (-1), 1) := by decide +kernel
theorem dX11_count_101 : decode cX11_count 101 = .ok (.ireturn, 1) := by decide +kernel
theorem dX11_status_0 : decode cX11_status 0 = .ok (.aload_n 0, 1) := by decide +kernel
theorem dX11_status_1 : decode cX11_status 1 = .ok (.getfield 101, 3) := by decide +kernel
theorem dX11_status_4 : decode cX11_status 4 = .ok (.ireturn, 1) := by decide +kernel
theorem dX11_answered_0 : decode cX11_answered 0 = .ok (.aload_n 0, 1) := by decide +kernel
theorem dX11_answered_1 : decode cX11_answered 1 = .ok (.iload_n 1, 1) := by decide +kernel
theorem dX11_answered_2 : decode cX11_answered 2 = .ok (.iconst 0, 1) := by decide +kernel
theorem dX11_answered_3 : decode cX11_answered 3 = .ok (.invokestatic 264, 3) := by decide +kernel
theorem dX11_answered_6 : decode cX11_answered 6 = .ok (.putfield 101, 3) := by decide +kernel
theorem dX11_answered_9 : decode cX11_answered 9 = .ok (.iload_n 1, 1) := by decide +kernel
theorem dX11_answered_10 : decode cX11_answered 10 = .ok (.ireturn, 1) := by decide +kernel
theorem dX11_howManyPieces_0 : decode cX11_howManyPieces 0 = .ok (.iload_n 1, 1) := by decide +kernel
theorem dX11_howManyPieces_1 : decode cX11_howManyPieces 1 = .ok (.tableswitch 51 0 2 #[27, 35, 43], 27) := by decide +kernel
theorem dX11_howManyPieces_28 : decode cX11_howManyPieces 28 = .ok (.aload_n 0, 1) := by decide +kernel
theorem dX11_howManyPieces_29 : decode cX11_howManyPieces 29 = .ok (.getfield 39, 3) := by decide +kernel
theorem dX11_howManyPieces_32 : decode cX11_howManyPieces 32 = .ok (.invokevirtual 269, 3) := by decide +kernel
theorem dX11_howManyPieces_35 : decode cX11_howManyPieces 35 = .ok (.ireturn, 1) := by decide +kernel
theorem dX11_howManyPieces_36 : decode cX11_howManyPieces 36 = .ok (.aload_n 0, 1) := by decide +kernel
theorem dX11_howManyPieces_37 : decode cX11_howManyPieces 37 = .ok (.getfield 39, 3) := by decide +kernel
theorem dX11_howManyPieces_40 : decode cX11_howManyPieces 40 = .ok (.invokevirtual 272, 3) := by decide +kernel
theorem dX11_howManyPieces_43 : decode cX11_howManyPieces 43 = .ok (.ireturn, 1) := by decide +kernel
theorem dX11_howManyPieces_44 : decode cX11_howManyPieces 44 = .ok (.aload_n 0, 1) := by decide +kernel
theorem dX11_howManyPieces_45 : decode cX11_howManyPieces 45 = .ok (.getfield 39, 3) := by decide +kernel
theorem dX11_howManyPieces_48 : decode cX11_howManyPieces 48 = .ok (.invokevirtual 275, 3) := by decide +kernel
theorem dX11_howManyPieces_51 : decode cX11_howManyPieces 51 = .ok (.ireturn, 1) := by decide +kernel
theorem dX11_howManyPieces_52 : decode cX11_howManyPieces 52 = .ok (.iconst (-1), 1) := by decide +kernel
theorem dX11_howManyPieces_53 : decode cX11_howManyPieces 53 = .ok (.ireturn, 1) := by decide +kernel
theorem dX11_isSort_0 : decode cX11_isSort 0 = .ok (.iload_n 0, 1) := by decide +kernel
theorem dX11_isSort_1 : decode cX11_isSort 1 = .ok (.ifCond .lt 8, 3) := by decide +kernel
theorem dX11_isSort_4 : decode cX11_isSort 4 = .ok (.iload_n 0, 1) := by decide +kernel
theorem dX11_isSort_5 : decode cX11_isSort 5 = .ok (.iconst 4, 1) := by decide +kernel
theorem dX11_isSort_6 : decode cX11_isSort 6 = .ok (.if_icmp .le 10, 3) := by decide +kernel
theorem dX11_isSort_9 : decode cX11_isSort 9 = .ok (.iload_n 0, 1) := by decide +kernel
theorem dX11_isSort_10 : decode cX11_isSort 10 = .ok (.invokestatic 278, 3) := by decide +kernel
theorem dX11_isSort_13 : decode cX11_isSort 13 = .ok (.ifCond .eq 7, 3) := by decide +kernel
theorem dX11_isSort_16 : decode cX11_isSort 16 = .ok (.iconst 1, 1) := by decide +kernel
theorem dX11_isSort_17 : decode cX11_isSort 17 = .ok (.goto 4, 3) := by decide +kernel
theorem dX11_isSort_20 : decode cX11_isSort 20 = .ok (.iconst 0, 1) := by decide +kernel
theorem dX11_isSort_21 : decode cX11_isSort 21 = .ok (.ireturn, 1) := by decide +kernel
theorem dX11_isClay_0 : decode cX11_isClay 0 = .ok (.iload_n 0, 1) := by decide +kernel
theorem dX11_isClay_1 : decode cX11_isClay 1 = .ok (.bipush 10, 2) := by decide +kernel
theorem dX11_isClay_3 : decode cX11_isClay 3 = .ok (.if_icmp .lt 13, 3) := by decide +kernel
theorem dX11_isClay_6 : decode cX11_isClay 6 = .ok (.iload_n 0, 1) := by decide +kernel
theorem dX11_isClay_7 : decode cX11_isClay 7 = .ok (.bipush 18, 2) := by decide +kernel
theorem dX11_isClay_9 : decode cX11_isClay 9 = .ok (.if_icmp .ge 7, 3) := by decide +kernel
theorem dX11_isClay_12 : decode cX11_isClay 12 = .ok (.iconst 1, 1) := by decide +kernel
theorem dX11_isClay_13 : decode cX11_isClay 13 = .ok (.goto 4, 3) := by decide +kernel
theorem dX11_isClay_16 : decode cX11_isClay 16 = .ok (.iconst 0, 1) := by decide +kernel
theorem dX11_isClay_17 : decode cX11_isClay 17 = .ok (.ireturn, 1) := by decide +kernel
theorem dX11_isWithin_0 : decode cX11_isWithin 0 = .ok (.iload_n 0, 1) := by decide +kernel
theorem dX11_isWithin_1 : decode cX11_isWithin 1 = .ok (.ifCond .lt 12, 3) := by decide +kernel
theorem dX11_isWithin_4 : decode cX11_isWithin 4 = .ok (.iload_n 0, 1) := by decide +kernel
theorem dX11_isWithin_5 : decode cX11_isWithin 5 = .ok (.iload_n 1, 1) := by decide +kernel
theorem dX11_isWithin_6 : decode cX11_isWithin 6 = .ok (.if_icmp .gt 7, 3) := by decide +kernel
theorem dX11_isWithin_9 : decode cX11_isWithin 9 = .ok (.iconst 1, 1) := by decide +kernel
theorem dX11_isWithin_10 : decode cX11_isWithin 10 = .ok (.goto 4, 3) := by decide +kernel
theorem dX11_isWithin_13 : decode cX11_isWithin 13 = .ok (.iconst 0, 1) := by decide +kernel
theorem dX11_isWithin_14 : decode cX11_isWithin 14 = .ok (.ireturn, 1) := by decide +kernel
