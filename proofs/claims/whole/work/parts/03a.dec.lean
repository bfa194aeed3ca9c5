theorem dX0_init_0 : decode cX0_init 0 = .ok (.aload_n 0, 1) := by decide +kernel
theorem dX0_init_1 : decode cX0_init 1 = .ok (.invokespecial 3, 3) := by decide +kernel
theorem dX0_init_4 : decode cX0_init 4 = .ok (.aload_n 0, 1) := by decide +kernel
theorem dX0_init_5 : decode cX0_init 5 = .ok (.bipush 6, 2) := by decide +kernel
theorem dX0_init_7 : decode cX0_init 7 = .ok (.newarray .int, 2) := by decide +kernel
theorem dX0_init_9 : decode cX0_init 9 = .ok (.putfield 9, 3) := by decide +kernel
theorem dX0_init_12 : decode cX0_init 12 = .ok (.aload_n 0, 1) := by decide +kernel
theorem dX0_init_13 : decode cX0_init 13 = .ok (.aload_n 1, 1) := by decide +kernel
theorem dX0_init_14 : decode cX0_init 14 = .ok (.putfield 15, 3) := by decide +kernel
theorem dX0_init_17 : decode cX0_init 17 = .ok (.return_, 1) := by decide +kernel
theorem dX0_clear_0 : decode cX0_clear 0 = .ok (.aload_n 0, 1) := by decide +kernel
theorem dX0_clear_1 : decode cX0_clear 1 = .ok (.getfield 9, 3) := by decide +kernel
theorem dX0_clear_4 : decode cX0_clear 4 = .ok (.iconst 0, 1) := by decide +kernel
theorem dX0_clear_5 : decode cX0_clear 5 = .ok (.invokestatic 19, 3) := by decide +kernel
theorem dX0_clear_8 : decode cX0_clear 8 = .ok (.return_, 1) := by decide +kernel
theorem dX0_put_0 : decode cX0_put 0 = .ok (.iload_n 1, 1) := by decide +kernel
theorem dX0_put_1 : decode cX0_put 1 = .ok (.ifCond .lt 16, 3) := by decide +kernel
theorem dX0_put_4 : decode cX0_put 4 = .ok (.iload_n 1, 1) := by decide +kernel
theorem dX0_put_5 : decode cX0_put 5 = .ok (.bipush 6, 2) := by decide +kernel
theorem dX0_put_7 : decode cX0_put 7 = .ok (.if_icmp .ge 10, 3) := by decide +kernel
theorem dX0_put_10 : decode cX0_put 10 = .ok (.aload_n 0, 1) := by decide +kernel
theorem dX0_put_11 : decode cX0_put 11 = .ok (.getfield 9, 3) := by decide +kernel
theorem dX0_put_14 : decode cX0_put 14 = .ok (.iload_n 1, 1) := by decide +kernel
theorem dX0_put_15 : decode cX0_put 15 = .ok (.iload_n 2, 1) := by decide +kernel
theorem dX0_put_16 : decode cX0_put 16 = .ok (.iastore, 1) := by decide +kernel
theorem dX0_put_17 : decode cX0_put 17 = .ok (.return_, 1) := by decide +kernel
theorem dX0_isThere_0 : decode cX0_isThere 0 = .ok (.aload_n 0, 1) := by decide +kernel
theorem dX0_isThere_1 : decode cX0_isThere 1 = .ok (.invokevirtual 25, 3) := by decide +kernel
theorem dX0_isThere_4 : decode cX0_isThere 4 = .ok (.ifCond .le 7, 3) := by decide +kernel
theorem dX0_isThere_7 : decode cX0_isThere 7 = .ok (.iconst 1, 1) := by decide +kernel
theorem dX0_isThere_8 : decode cX0_isThere 8 = .ok (.goto 4, 3) := by decide +kernel
theorem dX0_isThere_11 : decode cX0_isThere 11 = .ok (.iconst 0, 1) := by decide +kernel
theorem dX0_isThere_12 : decode cX0_isThere 12 = .ok (.ireturn, 1) := by decide +kernel
theorem dX0_unitsOf_0 : decode cX0_unitsOf 0 = .ok (.iload_n 1, 1) := by decide +kernel
theorem dX0_unitsOf_1 : decode cX0_unitsOf 1 = .ok (.ifCond .lt 18, 3) := by decide +kernel
theorem dX0_unitsOf_4 : decode cX0_unitsOf 4 = .ok (.iload_n 1, 1) := by decide +kernel
theorem dX0_unitsOf_5 : decode cX0_unitsOf 5 = .ok (.bipush 6, 2) := by decide +kernel
theorem dX0_unitsOf_7 : decode cX0_unitsOf 7 = .ok (.if_icmp .ge 12, 3) := by decide +kernel
theorem dX0_unitsOf_10 : decode cX0_unitsOf 10 = .ok (.aload_n 0, 1) := by decide +kernel
theorem dX0_unitsOf_11 : decode cX0_unitsOf 11 = .ok (.getfield 9, 3) := by decide +kernel
theorem dX0_unitsOf_14 : decode cX0_unitsOf 14 = .ok (.iload_n 1, 1) := by decide +kernel
theorem dX0_unitsOf_15 : decode cX0_unitsOf 15 = .ok (.iaload, 1) := by decide +kernel
theorem dX0_unitsOf_16 : decode cX0_unitsOf 16 = .ok (.goto 4, 3) := by decide +kernel
theorem dX0_unitsOf_19 : decode cX0_unitsOf 19 = .ok (.iconst 0, 1) := by decide +kernel
theorem dX0_unitsOf_20 : decode cX0_unitsOf 20 = .ok (.ireturn, 1) := by decide +kernel
theorem dX0_total_0 : decode cX0_total 0 = .ok (.iconst 0, 1) := by decide +kernel
theorem dX0_total_1 : decode cX0_total 1 = .ok (.istore_n 1, 1) := by decide +kernel
theorem dX0_total_2 : decode cX0_total 2 = .ok (.iconst 0, 1) := by decide +kernel
theorem dX0_total_3 : decode cX0_total 3 = .ok (.istore_n 2, 1) := by decide +kernel
theorem dX0_total_4 : decode cX0_total 4 = .ok (.iload_n 2, 1) := by decide +kernel
theorem dX0_total_5 : decode cX0_total 5 = .ok (.bipush 6, 2) := by decide +kernel
theorem dX0_total_7 : decode cX0_total 7 = .ok (.if_icmp .ge 18, 3) := by decide +kernel
theorem dX0_total_10 : decode cX0_total 10 = .ok (.iload_n 1, 1) := by decide +kernel
theorem dX0_total_11 : decode cX0_total 11 = .ok (.aload_n 0, 1) := by decide +kernel
theorem dX0_total_12 : decode cX0_total 12 = .ok (.getfield 9, 3) := by decide +kernel
theorem dX0_total_15 : decode cX0_total 15 = .ok (.iload_n 2, 1) := by decide +kernel
theorem dX0_total_16 : decode cX0_total 16 = .ok (.iaload, 1) := by decide +kernel
theorem dX0_total_17 : decode cX0_total 17 = .ok (.iadd, 1) := by decide +kernel
theorem dX0_total_18 : decode cX0_total 18 = .ok (.istore_n 1, 1) := by decide +kernel
theorem dX0_total_19 : decode cX0_total 19 = .ok (.iinc 2 1, 3) := by decide +kernel
theorem dX0_total_22 : decode cX0_total 22 = .ok (.goto (-18), 3) := by decide +kernel
theorem dX0_total_25 : decode cX0_total 25 = .ok (.iload_n 1, 1) := by decide +kernel
theorem dX0_total_26 : decode cX0_total 26 = .ok (.ireturn, 1) := by decide +kernel
theorem dX0_tin_0 : decode cX0_tin 0 = .ok (.iconst 0, 1) := by decide +kernel
theorem dX0_tin_1 : decode cX0_tin 1 = .ok (.istore_n 1, 1) := by decide +kernel
theorem dX0_tin_2 : decode cX0_tin 2 = .ok (.iconst 0, 1) := by decide +kernel
theorem dX0_tin_3 : decode cX0_tin 3 = .ok (.istore_n 2, 1) := by decide +kernel
theorem dX0_tin_4 : decode cX0_tin 4 = .ok (.iload_n 2, 1) := by decide +kernel
theorem dX0_tin_5 : decode cX0_tin 5 = .ok (.bipush 6, 2) := by decide +kernel
theorem dX0_tin_7 : decode cX0_tin 7 = .ok (.if_icmp .ge 27, 3) := by decide +kernel
theorem dX0_tin_10 : decode cX0_tin 10 = .ok (.iload_n 1, 1) := by decide +kernel
theorem dX0_tin_11 : decode cX0_tin 11 = .ok (.aload_n 0, 1) := by decide +kernel
theorem dX0_tin_12 : decode cX0_tin 12 = .ok (.getfield 9, 3) := by decide +kernel
theorem dX0_tin_15 : decode cX0_tin 15 = .ok (.iload_n 2, 1) := by decide +kernel
theorem dX0_tin_16 : decode cX0_tin 16 = .ok (.iaload, 1) := by decide +kernel
theorem dX0_tin_17 : decode cX0_tin 17 = .ok (.aload_n 0, 1) := by decide +kernel
theorem dX0_tin_18 : decode cX0_tin 18 = .ok (.getfield 15, 3) := by decide +kernel
theorem dX0_tin_21 : decode cX0_tin 21 = .ok (.iload_n 2, 1) := by decide +kernel
theorem dX0_tin_22 : decode cX0_tin 22 = .ok (.invokevirtual 29, 3) := by decide +kernel
theorem dX0_tin_25 : decode cX0_tin 25 = .ok (.imul, 1) := by decide +kernel
theorem dX0_tin_26 : decode cX0_tin 26 = .ok (.iadd, 1) := by decide +kernel
theorem dX0_tin_27 : decode cX0_tin 27 = .ok (.istore_n 1, 1) := by decide +kernel
theorem dX0_tin_28 : decode cX0_tin 28 = .ok (.iinc 2 1, 3) := by decide +kernel
theorem dX0_tin_31 : decode cX0_tin 31 = .ok (.goto (-27), 3) := by decide +kernel
theorem dX0_tin_34 : decode cX0_tin 34 = .ok (.iload_n 1, 1) := by decide +kernel
theorem dX0_tin_35 : decode cX0_tin 35 = .ok (.ireturn, 1) := by decide +kernel
theorem dX0_lead_0 : decode cX0_lead 0 = .ok (.iconst 0, 1) := by decide +kernel
theorem dX0_lead_1 : decode cX0_lead 1 = .ok (.istore_n 1, 1) := by decide +kernel
theorem dX0_lead_2 : decode cX0_lead 2 = .ok (.iconst 0, 1) := by decide +kernel
theorem dX0_lead_3 : decode cX0_lead 3 = .ok (.istore_n 2, 1) := by decide +kernel
theorem dX0_lead_4 : decode cX0_lead 4 = .ok (.iload_n 2, 1) := by decide +kernel
theorem dX0_lead_5 : decode cX0_lead 5 = .ok (.bipush 6, 2) := by decide +kernel
theorem dX0_lead_7 : decode cX0_lead 7 = .ok (.if_icmp .ge 27, 3) := by decide +kernel
theorem dX0_lead_10 : decode cX0_lead 10 = .ok (.iload_n 1, 1) := by decide +kernel
theorem dX0_lead_11 : decode cX0_lead 11 = .ok (.aload_n 0, 1) := by decide +kernel
theorem dX0_lead_12 : decode cX0_lead 12 = .ok (.getfield 9, 3) := by decide +kernel
theorem dX0_lead_15 : decode cX0_lead 15 = .ok (.iload_n 2, 1) := by decide +kernel
theorem dX0_lead_16 : decode cX0_lead 16 = .ok (.iaload, 1) := by decide +kernel
theorem dX0_lead_17 : decode cX0_lead 17 = .ok (.aload_n 0, 1) := by decide +kernel
theorem dX0_lead_18 : decode cX0_lead 18 = .ok (.getfield 15, 3) := by decide +kernel
theorem dX0_lead_21 : decode cX0_lead 21 = .ok (.iload_n 2, 1) := by decide +kernel
theorem dX0_lead_22 : decode cX0_lead 22 = .ok (.invokevirtual 35, 3) := by decide +kernel
theorem dX0_lead_25 : decode cX0_lead 25 = .ok (.imul, 1) := by decide +kernel
theorem dX0_lead_26 : decode cX0_lead 26 = .ok (.iadd, 1) := by decide +kernel
theorem dX0_lead_27 : decode cX0_lead 27 = .ok (.istore_n 1, 1) := by decide +kernel
theorem dX0_lead_28 : decode cX0_lead 28 = .ok (.iinc 2 1, 3) := by decide +kernel
theorem dX0_lead_31 : decode cX0_lead 31 = .ok (.goto (-27), 3) := by decide +kernel
theorem dX0_lead_34 : decode cX0_lead 34 = .ok (.iload_n 1, 1) := by decide +kernel
theorem dX0_lead_35 : decode cX0_lead 35 = .ok (.ireturn, 1) := by decide +kernel
theorem dX0_copper_0 : decode cX0_copper 0 = .ok (.aload_n 0, 1) := by decide +kernel
theorem dX0_copper_1 : decode cX0_copper 1 = .ok (.invokevirtual 25, 3) := by decide +kernel
theorem dX0_copper_4 : decode cX0_copper 4 = .ok (.sipush 1000, 3) := by decide +kernel
theorem dX0_copper_7 : decode cX0_copper 7 = .ok (.imul, 1) := by decide +kernel
theorem dX0_copper_8 : decode cX0_copper 8 = .ok (.aload_n 0, 1) := by decide +kernel
theorem dX0_copper_9 : decode cX0_copper 9 = .ok (.invokevirtual 38, 3) := by decide +kernel
theorem dX0_copper_12 : decode cX0_copper 12 = .ok (.isub, 1) := by decide +kernel
theorem dX0_copper_13 : decode cX0_copper 13 = .ok (.aload_n 0, 1) := by decide +kernel
theorem dX0_copper_14 : decode cX0_copper 14 = .ok (.invokevirtual 41, 3) := by decide +kernel
theorem dX0_copper_17 : decode cX0_copper 17 = .ok (.isub, 1) := by decide +kernel
theorem dX0_copper_18 : decode cX0_copper 18 = .ok (.ireturn, 1) := by decide +kernel
theorem dX0_takeFromLots_0 : decode cX0_takeFromLots 0 = .ok (.iconst 0, 1) := by decide +kernel
theorem dX0_takeFromLots_1 : decode cX0_takeFromLots 1 = .ok (.istore_n 1, 1) := by decide +kernel
theorem dX0_takeFromLots_2 : decode cX0_takeFromLots 2 = .ok (.iload_n 1, 1) := by decide +kernel
theorem dX0_takeFromLots_3 : decode cX0_takeFromLots 3 = .ok (.bipush 6, 2) := by decide +kernel
theorem dX0_takeFromLots_5 : decode cX0_takeFromLots 5 = .ok (.if_icmp .ge 28, 3) := by decide +kernel
theorem dX0_takeFromLots_8 : decode cX0_takeFromLots 8 = .ok (.aload_n 0, 1) := by decide +kernel
theorem dX0_takeFromLots_9 : decode cX0_takeFromLots 9 = .ok (.getfield 9, 3) := by decide +kernel
theorem dX0_takeFromLots_12 : decode cX0_takeFromLots 12 = .ok (.iload_n 1, 1) := by decide +kernel
theorem dX0_takeFromLots_13 : decode cX0_takeFromLots 13 = .ok (.iaload, 1) := by decide +kernel
theorem dX0_takeFromLots_14 : decode cX0_takeFromLots 14 = .ok (.aload_n 0, 1) := by decide +kernel
theorem dX0_takeFromLots_15 : decode cX0_takeFromLots 15 = .ok (.getfield 15, 3) := by decide +kernel
theorem dX0_takeFromLots_18 : decode cX0_takeFromLots 18 = .ok (.iload_n 1, 1) := by decide +kernel
theorem dX0_takeFromLots_19 : decode cX0_takeFromLots 19 = .ok (.invokevirtual 44, 3) := by decide +kernel
theorem dX0_takeFromLots_22 : decode cX0_takeFromLots 22 = .ok (.if_icmp .le 5, 3) := by decide +kernel
theorem dX0_takeFromLots_25 : decode cX0_takeFromLots 25 = .ok (.iconst (-1), 1) := by decide +kernel
theorem dX0_takeFromLots_26 : decode cX0_takeFromLots 26 = .ok (.ireturn, 1) := by decide +kernel
theorem dX0_takeFromLots_27 : decode cX0_takeFromLots 27 = .ok (.iinc 1 1, 3) := by decide +kernel
theorem dX0_takeFromLots_30 : decode cX0_takeFromLots 30 = .ok (.goto (-28), 3) := by decide +kernel
theorem dX0_takeFromLots_33 : decode cX0_takeFromLots 33 = .ok (.iconst 0, 1) := by decide +kernel
theorem dX0_takeFromLots_34 : decode cX0_takeFromLots 34 = .ok (.istore_n 1, 1) := by decide +kernel
theorem dX0_takeFromLots_35 : decode cX0_takeFromLots 35 = .ok (.iload_n 1, 1) := by decide +kernel
theorem dX0_takeFromLots_36 : decode cX0_takeFromLots 36 = .ok (.bipush 6, 2) := by decide +kernel
theorem dX0_takeFromLots_38 : decode cX0_takeFromLots 38 = .ok (.if_icmp .ge 23, 3) := by decide +kernel
theorem dX0_takeFromLots_41 : decode cX0_takeFromLots 41 = .ok (.aload_n 0, 1) := by decide +kernel
theorem dX0_takeFromLots_42 : decode cX0_takeFromLots 42 = .ok (.getfield 15, 3) := by decide +kernel
theorem dX0_takeFromLots_45 : decode cX0_takeFromLots 45 = .ok (.iload_n 1, 1) := by decide +kernel
theorem dX0_takeFromLots_46 : decode cX0_takeFromLots 46 = .ok (.aload_n 0, 1) := by decide +kernel
theorem dX0_takeFromLots_47 : decode cX0_takeFromLots 47 = .ok (.getfield 9, 3) := by decide +kernel
theorem dX0_takeFromLots_50 : decode cX0_takeFromLots 50 = .ok (.iload_n 1, 1) := by decide +kernel
theorem dX0_takeFromLots_51 : decode cX0_takeFromLots 51 = .ok (.iaload, 1) := by decide +kernel
theorem dX0_takeFromLots_52 : decode cX0_takeFromLots 52 = .ok (.invokevirtual 47, 3) := by decide +kernel
theorem dX0_takeFromLots_55 : decode cX0_takeFromLots 55 = .ok (.iinc 1 1, 3) := by decide +kernel
theorem dX0_takeFromLots_58 : decode cX0_takeFromLots 58 = .ok (.goto (-23), 3) := by decide +kernel
theorem dX0_takeFromLots_61 : decode cX0_takeFromLots 61 = .ok (.aload_n 0, 1) := by decide +kernel
theorem dX0_takeFromLots_62 : decode cX0_takeFromLots 62 = .ok (.invokevirtual 25, 3) := by decide +kernel
theorem dX0_takeFromLots_65 : decode cX0_takeFromLots 65 = .ok (.ireturn, 1) := by decide +kernel
theorem dX1_init_0 : decode cX1_init 0 = .ok (.aload_n 0, 1) := by decide +kernel
theorem dX1_init_1 : decode cX1_init 1 = .ok (.invokespecial 3, 3) := by decide +kernel
theorem dX1_init_4 : decode cX1_init 4 = .ok (.aload_n 0, 1) := by decide +kernel
theorem dX1_init_5 : decode cX1_init 5 = .ok (.sipush 144, 3) := by decide +kernel
theorem dX1_init_8 : decode cX1_init 8 = .ok (.newarray .int, 2) := by decide +kernel
theorem dX1_init_10 : decode cX1_init 10 = .ok (.putfield 9, 3) := by decide +kernel
theorem dX1_init_13 : decode cX1_init 13 = .ok (.aload_n 0, 1) := by decide +kernel
theorem dX1_init_14 : decode cX1_init 14 = .ok (.sipush 144, 3) := by decide +kernel
theorem dX1_init_17 : decode cX1_init 17 = .ok (.newarray .boolean, 2) := by decide +kernel
theorem dX1_init_19 : decode cX1_init 19 = .ok (.putfield 15, 3) := by decide +kernel
theorem dX1_init_22 : decode cX1_init 22 = .ok (.aload_n 0, 1) := by decide +kernel
theorem dX1_init_23 : decode cX1_init 23 = .ok (.sipush 144, 3) := by decide +kernel
theorem dX1_init_26 : decode cX1_init 26 = .ok (.newarray .int, 2) := by decide +kernel
theorem dX1_init_28 : decode cX1_init 28 = .ok (.putfield 19, 3) := by decide +kernel
theorem dX1_init_31 : decode cX1_init 31 = .ok (.aload_n 0, 1) := by decide +kernel
theorem dX1_init_32 : decode cX1_init 32 = .ok (.iconst 0, 1) := by decide +kernel
theorem dX1_init_33 : decode cX1_init 33 = .ok (.putfield 22, 3) := by decide +kernel
theorem dX1_init_36 : decode cX1_init 36 = .ok (.aload_n 0, 1) := by decide +kernel
theorem dX1_init_37 : decode cX1_init 37 = .ok (.iconst 0, 1) := by decide +kernel
theorem dX1_init_38 : decode cX1_init 38 = .ok (.putfield 26, 3) := by decide +kernel
theorem dX1_init_41 : decode cX1_init 41 = .ok (.aload_n 0, 1) := by decide +kernel
theorem dX1_init_42 : decode cX1_init 42 = .ok (.iconst (-1), 1) := by decide +kernel
theorem dX1_init_43 : decode cX1_init 43 = .ok (.putfield 29, 3) := by decide +kernel
theorem dX1_init_46 : decode cX1_init 46 = .ok (.aload_n 0, 1) := by decide +kernel
theorem dX1_init_47 : decode cX1_init 47 = .ok (.aload_n 1, 1) := by decide +kernel
theorem dX1_init_48 : decode cX1_init 48 = .ok (.putfield 32, 3) := by decide +kernel
theorem dX1_init_51 : decode cX1_init 51 = .ok (.return_, 1) := by decide +kernel
theorem dX1_refresh_0 : decode cX1_refresh 0 = .ok (.aload_n 0, 1) := by decide +kernel
theorem dX1_refresh_1 : decode cX1_refresh 1 = .ok (.getfield 29, 3) := by decide +kernel
theorem dX1_refresh_4 : decode cX1_refresh 4 = .ok (.aload_n 0, 1) := by decide +kernel
theorem dX1_refresh_5 : decode cX1_refresh 5 = .ok (.getfield 32, 3) := by decide +kernel
theorem dX1_refresh_8 : decode cX1_refresh 8 = .ok (.invokevirtual 36, 3) := by decide +kernel
theorem dX1_refresh_11 : decode cX1_refresh 11 = .ok (.if_icmp .ne 4, 3) := by decide +kernel
theorem dX1_refresh_14 : decode cX1_refresh 14 = .ok (.return_, 1) := by decide +kernel
theorem dX1_refresh_15 : decode cX1_refresh 15 = .ok (.aload_n 0, 1) := by decide +kernel
theorem dX1_refresh_16 : decode cX1_refresh 16 = .ok (.aload_n 0, 1) := by decide +kernel
theorem dX1_refresh_17 : decode cX1_refresh 17 = .ok (.getfield 32, 3) := by decide +kernel
theorem dX1_refresh_20 : decode cX1_refresh 20 = .ok (.invokevirtual 36, 3) := by decide +kernel
theorem dX1_refresh_23 : decode cX1_refresh 23 = .ok (.putfield 29, 3) := by decide +kernel
theorem dX1_refresh_26 : decode cX1_refresh 26 = .ok (.aload_n 0, 1) := by decide +kernel
theorem dX1_refresh_27 : decode cX1_refresh 27 = .ok (.invokevirtual 41, 3) := by decide +kernel
theorem dX1_refresh_30 : decode cX1_refresh 30 = .ok (.aload_n 0, 1) := by decide +kernel
theorem dX1_refresh_31 : decode cX1_refresh 31 = .ok (.invokevirtual 44, 3) := by decide +kernel
theorem dX1_refresh_34 : decode cX1_refresh 34 = .ok (.return_, 1) := by decide +kernel
theorem dX1_fateAt_0 : decode cX1_fateAt 0 = .ok (.aload_n 0, 1) := by decide +kernel
theorem dX1_fateAt_1 : decode cX1_fateAt 1 = .ok (.getfield 32, 3) := by decide +kernel
theorem dX1_fateAt_4 : decode cX1_fateAt 4 = .ok (.iload_n 1, 1) := by decide +kernel
theorem dX1_fateAt_5 : decode cX1_fateAt 5 = .ok (.iload_n 2, 1) := by decide +kernel
theorem dX1_fateAt_6 : decode cX1_fateAt 6 = .ok (.invokevirtual 47, 3) := by decide +kernel
theorem dX1_fateAt_9 : decode cX1_fateAt 9 = .ok (.ifCond .eq 17, 3) := by decide +kernel
theorem dX1_fateAt_12 : decode cX1_fateAt 12 = .ok (.aload_n 0, 1) := by decide +kernel
theorem dX1_fateAt_13 : decode cX1_fateAt 13 = .ok (.getfield 9, 3) := by decide +kernel
theorem dX1_fateAt_16 : decode cX1_fateAt 16 = .ok (.iload_n 2, 1) := by decide +kernel
theorem dX1_fateAt_17 : decode cX1_fateAt 17 = .ok (.bipush 12, 2) := by decide +kernel
theorem dX1_fateAt_19 : decode cX1_fateAt 19 = .ok (.imul, 1) := by decide +kernel
theorem dX1_fateAt_20 : decode cX1_fateAt 20 = .ok (.iload_n 1, 1) := by decide +kernel
theorem dX1_fateAt_21 : decode cX1_fateAt 21 = .ok (.iadd, 1) := by decide +kernel
theorem dX1_fateAt_22 : decode cX1_fateAt 22 = .ok (.iaload, 1) := by decide +kernel
theorem dX1_fateAt_23 : decode cX1_fateAt 23 = .ok (.goto 4, 3) := by decide +kernel
theorem dX1_fateAt_26 : decode cX1_fateAt 26 = .ok (.iconst 0, 1) := by decide +kernel
theorem dX1_fateAt_27 : decode cX1_fateAt 27 = .ok (.ireturn, 1) := by decide +kernel
theorem dX1_howMany_0 : decode cX1_howMany 0 = .ok (.iconst 0, 1) := by decide +kernel
theorem dX1_howMany_1 : decode cX1_howMany 1 = .ok (.istore_n 2, 1) := by decide +kernel
theorem dX1_howMany_2 : decode cX1_howMany 2 = .ok (.iconst 0, 1) := by decide +kernel
theorem dX1_howMany_3 : decode cX1_howMany 3 = .ok (.istore_n 3, 1) := by decide +kernel
theorem dX1_howMany_4 : decode cX1_howMany 4 = .ok (.iload_n 3, 1) := by decide +kernel
theorem dX1_howMany_5 : decode cX1_howMany 5 = .ok (.aload_n 0, 1) := by decide +kernel
theorem dX1_howMany_6 : decode cX1_howMany 6 = .ok (.getfield 32, 3) := by decide +kernel
theorem dX1_howMany_9 : decode cX1_howMany 9 = .ok (.invokevirtual 51, 3) := by decide +kernel
theorem dX1_howMany_12 : decode cX1_howMany 12 = .ok (.if_icmp .ge 44, 3) := by decide +kernel
theorem dX1_howMany_15 : decode cX1_howMany 15 = .ok (.iconst 0, 1) := by decide +kernel
theorem dX1_howMany_16 : decode cX1_howMany 16 = .ok (.istore 4, 2) := by decide +kernel
theorem dX1_howMany_18 : decode cX1_howMany 18 = .ok (.iload 4, 2) := by decide +kernel
theorem dX1_howMany_20 : decode cX1_howMany 20 = .ok (.aload_n 0, 1) := by decide +kernel
theorem dX1_howMany_21 : decode cX1_howMany 21 = .ok (.getfield 32, 3) := by decide +kernel
theorem dX1_howMany_24 : decode cX1_howMany 24 = .ok (.invokevirtual 54, 3) := by decide +kernel
theorem dX1_howMany_27 : decode cX1_howMany 27 = .ok (.if_icmp .ge 23, 3) := by decide +kernel
theorem dX1_howMany_30 : decode cX1_howMany 30 = .ok (.aload_n 0, 1) := by decide +kernel
theorem dX1_howMany_31 : decode cX1_howMany 31 = .ok (.iload 4, 2) := by decide +kernel
theorem dX1_howMany_33 : decode cX1_howMany 33 = .ok (.iload_n 3, 1) := by decide +kernel
theorem dX1_howMany_34 : decode cX1_howMany 34 = .ok (.invokevirtual 57, 3) := by decide +kernel
theorem dX1_howMany_37 : decode cX1_howMany 37 = .ok (.iload_n 1, 1) := by decide +kernel
theorem dX1_howMany_38 : decode cX1_howMany 38 = .ok (.if_icmp .ne 6, 3) := by decide +kernel
theorem dX1_howMany_41 : decode cX1_howMany 41 = .ok (.iinc 2 1, 3) := by decide +kernel
theorem dX1_howMany_44 : decode cX1_howMany 44 = .ok (.iinc 4 1, 3) := by decide +kernel
theorem dX1_howMany_47 : decode cX1_howMany 47 = .ok (.goto (-29), 3) := by decide +kernel
theorem dX1_howMany_50 : decode cX1_howMany 50 = .ok (.iinc 3 1, 3) := by decide +kernel
theorem dX1_howMany_53 : decode cX1_howMany 53 = .ok (.goto (-49), 3) := by decide +kernel
theorem dX1_howMany_56 : decode cX1_howMany 56 = .ok (.iload_n 2, 1) := by decide +kernel
theorem dX1_howMany_57 : decode cX1_howMany 57 = .ok (.ireturn, 1) := by decide +kernel
theorem dX1_howManySpacers_0 : decode cX1_howManySpacers 0 = .ok (.aload_n 0, 1) := by decide +kernel
theorem dX1_howManySpacers_1 : decode cX1_howManySpacers 1 = .ok (.getfield 32, 3) := by decide +kernel
theorem dX1_howManySpacers_4 : decode cX1_howManySpacers 4 = .ok (.iconst 2, 1) := by decide +kernel
theorem dX1_howManySpacers_5 : decode cX1_howManySpacers 5 = .ok (.iconst 2, 1) := by decide +kernel
theorem dX1_howManySpacers_6 : decode cX1_howManySpacers 6 = .ok (.invokevirtual 61, 3) := by decide +kernel
theorem dX1_howManySpacers_9 : decode cX1_howManySpacers 9 = .ok (.ireturn, 1) := by decide +kernel
theorem dX1_howManyCores_0 : decode cX1_howManyCores 0 = .ok (.aload_n 0, 1) := by decide +kernel
theorem dX1_howManyCores_1 : decode cX1_howManyCores 1 = .ok (.getfield 32, 3) := by decide +kernel
theorem dX1_howManyCores_4 : decode cX1_howManyCores 4 = .ok (.iconst 1, 1) := by decide +kernel
theorem dX1_howManyCores_5 : decode cX1_howManyCores 5 = .ok (.iconst 1, 1) := by decide +kernel
theorem dX1_howManyCores_6 : decode cX1_howManyCores 6 = .ok (.invokevirtual 61, 3) := by decide +kernel
theorem dX1_howManyCores_9 : decode cX1_howManyCores 9 = .ok (.ireturn, 1) := by decide +kernel
theorem dX1_canMend_0 : decode cX1_canMend 0 = .ok (.aload_n 0, 1) := by decide +kernel
theorem dX1_canMend_1 : decode cX1_canMend 1 = .ok (.iload_n 1, 1) := by decide +kernel
theorem dX1_canMend_2 : decode cX1_canMend 2 = .ok (.iload_n 2, 1) := by decide +kernel
theorem dX1_canMend_3 : decode cX1_canMend 3 = .ok (.invokevirtual 57, 3) := by decide +kernel
theorem dX1_canMend_6 : decode cX1_canMend 6 = .ok (.istore_n 3, 1) := by decide +kernel
theorem dX1_canMend_7 : decode cX1_canMend 7 = .ok (.iload_n 3, 1) := by decide +kernel
theorem dX1_canMend_8 : decode cX1_canMend 8 = .ok (.iconst 2, 1) := by decide +kernel
theorem dX1_canMend_9 : decode cX1_canMend 9 = .ok (.if_icmp .eq 10, 3) := by decide +kernel
theorem dX1_canMend_12 : decode cX1_canMend 12 = .ok (.iload_n 3, 1) := by decide +kernel
theorem dX1_canMend_13 : decode cX1_canMend 13 = .ok (.iconst 3, 1) := by decide +kernel
theorem dX1_canMend_14 : decode cX1_canMend 14 = .ok (.if_icmp .eq 5, 3) := by decide +kernel
theorem dX1_canMend_17 : decode cX1_canMend 17 = .ok (.iconst 0, 1) := by decide +kernel
theorem dX1_canMend_18 : decode cX1_canMend 18 = .ok (.ireturn, 1) := by decide +kernel
theorem dX1_canMend_19 : decode cX1_canMend 19 = .ok (.iconst 0, 1) := by decide +kernel
theorem dX1_canMend_20 : decode cX1_canMend 20 = .ok (.istore 4, 2) := by decide +kernel
theorem dX1_canMend_22 : decode cX1_canMend 22 = .ok (.iload 4, 2) := by decide +kernel
theorem dX1_canMend_24 : decode cX1_canMend 24 = .ok (.iconst 4, 1) := by decide +kernel
theorem dX1_canMend_25 : decode cX1_canMend 25 = .ok (.if_icmp .ge 34, 3) := by decide +kernel
theorem dX1_canMend_28 : decode cX1_canMend 28 = .ok (.aload_n 0, 1) := by decide +kernel
theorem dX1_canMend_29 : decode cX1_canMend 29 = .ok (.iload_n 1, 1) := by decide +kernel
theorem dX1_canMend_30 : decode cX1_canMend 30 = .ok (.getstatic 64, 3) := by decide +kernel
theorem dX1_canMend_33 : decode cX1_canMend 33 = .ok (.iload 4, 2) := by decide +kernel
theorem dX1_canMend_35 : decode cX1_canMend 35 = .ok (.iaload, 1) := by decide +kernel
theorem dX1_canMend_36 : decode cX1_canMend 36 = .ok (.iadd, 1) := by decide +kernel
theorem dX1_canMend_37 : decode cX1_canMend 37 = .ok (.iload_n 2, 1) := by decide +kernel
theorem dX1_canMend_38 : decode cX1_canMend 38 = .ok (.getstatic 67, 3) := by decide +kernel
theorem dX1_canMend_41 : decode cX1_canMend 41 = .ok (.iload 4, 2) := by decide +kernel
theorem dX1_canMend_43 : decode cX1_canMend 43 = .ok (.iaload, 1) := by decide +kernel
theorem dX1_canMend_44 : decode cX1_canMend 44 = .ok (.iadd, 1) := by decide +kernel
theorem dX1_canMend_45 : decode cX1_canMend 45 = .ok (.invokevirtual 70, 3) := by decide +kernel
theorem dX1_canMend_48 : decode cX1_canMend 48 = .ok (.ifCond .eq 5, 3) := by decide +kernel
theorem dX1_canMend_51 : decode cX1_canMend 51 = .ok (.iconst 1, 1) := by decide +kernel
theorem dX1_canMend_52 : decode cX1_canMend 52 = .ok (.ireturn, 1) := by decide +kernel
theorem dX1_canMend_53 : decode cX1_canMend 53 = .ok (.iinc 4 1, 3) := by decide +kernel
theorem dX1_canMend_56 : decode cX1_canMend 56 = .ok (.goto (-34), 3) := by decide +kernel
theorem dX1_canMend_59 : decode cX1_canMend 59 = .ok (.iconst 0, 1) := by decide +kernel
theorem dX1_canMend_60 : decode cX1_canMend 60 = .ok (.ireturn, 1) := by decide +kernel
theorem dX1_mend_0 : decode cX1_mend 0 = .ok (.aload_n 0, 1) := by decide +kernel
theorem dX1_mend_1 : decode cX1_mend 1 = .ok (.getfield 32, 3) := by decide +kernel
theorem dX1_mend_4 : decode cX1_mend 4 = .ok (.iload_n 1, 1) := by decide +kernel
theorem dX1_mend_5 : decode cX1_mend 5 = .ok (.iload_n 2, 1) := by decide +kernel
theorem dX1_mend_6 : decode cX1_mend 6 = .ok (.invokevirtual 47, 3) := by decide +kernel
theorem dX1_mend_9 : decode cX1_mend 9 = .ok (.ifCond .eq 15, 3) := by decide +kernel
theorem dX1_mend_12 : decode cX1_mend 12 = .ok (.aload_n 0, 1) := by decide +kernel
theorem dX1_mend_13 : decode cX1_mend 13 = .ok (.getfield 9, 3) := by decide +kernel
theorem dX1_mend_16 : decode cX1_mend 16 = .ok (.iload_n 2, 1) := by decide +kernel
theorem dX1_mend_17 : decode cX1_mend 17 = .ok (.bipush 12, 2) := by decide +kernel
theorem dX1_mend_19 : decode cX1_mend 19 = .ok (.imul, 1) := by decide +kernel
theorem dX1_mend_20 : decode cX1_mend 20 = .ok (.iload_n 1, 1) := by decide +kernel
theorem dX1_mend_21 : decode cX1_mend 21 = .ok (.iadd, 1) := by decide +kernel
theorem dX1_mend_22 : decode cX1_mend 22 = .ok (.iconst 5, 1) := by decide +kernel
theorem dX1_mend_23 : decode cX1_mend 23 = .ok (.iastore, 1) := by decide +kernel
theorem dX1_mend_24 : decode cX1_mend 24 = .ok (.aload_n 0, 1) := by decide +kernel
theorem dX1_mend_25 : decode cX1_mend 25 = .ok (.iconst 5, 1) := by decide +kernel
theorem dX1_mend_26 : decode cX1_mend 26 = .ok (.invokevirtual 73, 3) := by decide +kernel
theorem dX1_mend_29 : decode cX1_mend 29 = .ok (.ireturn, 1) := by decide +kernel
theorem dX1_wallAt_0 : decode cX1_wallAt 0 = .ok (.aload_n 0, 1) := by decide +kernel
theorem dX1_wallAt_1 : decode cX1_wallAt 1 = .ok (.iload_n 1, 1) := by decide +kernel
theorem dX1_wallAt_2 : decode cX1_wallAt 2 = .ok (.iload_n 2, 1) := by decide +kernel
theorem dX1_wallAt_3 : decode cX1_wallAt 3 = .ok (.invokevirtual 70, 3) := by decide +kernel
theorem dX1_wallAt_6 : decode cX1_wallAt 6 = .ok (.ifCond .ne 5, 3) := by decide +kernel
theorem dX1_wallAt_9 : decode cX1_wallAt 9 = .ok (.iconst 0, 1) := by decide +kernel
theorem dX1_wallAt_10 : decode cX1_wallAt 10 = .ok (.ireturn, 1) := by decide +kernel
theorem dX1_wallAt_11 : decode cX1_wallAt 11 = .ok (.iconst 1, 1) := by decide +kernel
theorem dX1_wallAt_12 : decode cX1_wallAt 12 = .ok (.aload_n 0, 1) := by decide +kernel
theorem dX1_wallAt_13 : decode cX1_wallAt 13 = .ok (.iload_n 1, 1) := by decide +kernel
theorem dX1_wallAt_14 : decode cX1_wallAt 14 = .ok (.iload_n 2, 1) := by decide +kernel
theorem dX1_wallAt_15 : decode cX1_wallAt 15 = .ok (.iconst 0, 1) := by decide +kernel
theorem dX1_wallAt_16 : decode cX1_wallAt 16 = .ok (.invokevirtual 76, 3) := by decide +kernel
theorem dX1_wallAt_19 : decode cX1_wallAt 19 = .ok (.iadd, 1) := by decide +kernel
theorem dX1_wallAt_20 : decode cX1_wallAt 20 = .ok (.aload_n 0, 1) := by decide +kernel
theorem dX1_wallAt_21 : decode cX1_wallAt 21 = .ok (.iload_n 1, 1) := by decide +kernel
theorem dX1_wallAt_22 : decode cX1_wallAt 22 = .ok (.iload_n 2, 1) := by decide +kernel
theorem dX1_wallAt_23 : decode cX1_wallAt 23 = .ok (.iconst 2, 1) := by decide +kernel
theorem dX1_wallAt_24 : decode cX1_wallAt 24 = .ok (.invokevirtual 76, 3) := by decide +kernel
theorem dX1_wallAt_27 : decode cX1_wallAt 27 = .ok (.iadd, 1) := by decide +kernel
theorem dX1_wallAt_28 : decode cX1_wallAt 28 = .ok (.istore_n 3, 1) := by decide +kernel
theorem dX1_wallAt_29 : decode cX1_wallAt 29 = .ok (.iconst 1, 1) := by decide +kernel
theorem dX1_wallAt_30 : decode cX1_wallAt 30 = .ok (.aload_n 0, 1) := by decide +kernel
theorem dX1_wallAt_31 : decode cX1_wallAt 31 = .ok (.iload_n 1, 1) := by decide +kernel
theorem dX1_wallAt_32 : decode cX1_wallAt 32 = .ok (.iload_n 2, 1) := by decide +kernel
theorem dX1_wallAt_33 : decode cX1_wallAt 33 = .ok (.iconst 1, 1) := by decide +kernel
theorem dX1_wallAt_34 : decode cX1_wallAt 34 = .ok (.invokevirtual 76, 3) := by decide +kernel
theorem dX1_wallAt_37 : decode cX1_wallAt 37 = .ok (.iadd, 1) := by decide +kernel
theorem dX1_wallAt_38 : decode cX1_wallAt 38 = .ok (.aload_n 0, 1) := by decide +kernel
theorem dX1_wallAt_39 : decode cX1_wallAt 39 = .ok (.iload_n 1, 1) := by decide +kernel
theorem dX1_wallAt_40 : decode cX1_wallAt 40 = .ok (.iload_n 2, 1) := by decide +kernel
theorem dX1_wallAt_41 : decode cX1_wallAt 41 = .ok (.iconst 3, 1) := by decide +kernel
theorem dX1_wallAt_42 : decode cX1_wallAt 42 = .ok (.invokevirtual 76, 3) := by decide +kernel
theorem dX1_wallAt_45 : decode cX1_wallAt 45 = .ok (.iadd, 1) := by decide +kernel
theorem dX1_wallAt_46 : decode cX1_wallAt 46 = .ok (.istore 4, 2) := by decide +kernel
theorem dX1_wallAt_48 : decode cX1_wallAt 48 = .ok (.iload_n 3, 1) := by decide +kernel
theorem dX1_wallAt_49 : decode cX1_wallAt 49 = .ok (.iload 4, 2) := by decide +kernel
theorem dX1_wallAt_51 : decode cX1_wallAt 51 = .ok (.invokestatic 80, 3) := by decide +kernel
theorem dX1_wallAt_54 : decode cX1_wallAt 54 = .ok (.ireturn, 1) := by decide +kernel
theorem dX1_leastWall_0 : decode cX1_leastWall 0 = .ok (.iconst 0, 1) := by decide +kernel
theorem dX1_leastWall_1 : decode cX1_leastWall 1 = .ok (.istore_n 1, 1) := by decide +kernel
theorem dX1_leastWall_2 : decode cX1_leastWall 2 = .ok (.iconst 0, 1) := by decide +kernel
theorem dX1_leastWall_3 : decode cX1_leastWall 3 = .ok (.istore_n 2, 1) := by decide +kernel
theorem dX1_leastWall_4 : decode cX1_leastWall 4 = .ok (.iload_n 2, 1) := by decide +kernel
theorem dX1_leastWall_5 : decode cX1_leastWall 5 = .ok (.aload_n 0, 1) := by decide +kernel
theorem dX1_leastWall_6 : decode cX1_leastWall 6 = .ok (.getfield 32, 3) := by decide +kernel
theorem dX1_leastWall_9 : decode cX1_leastWall 9 = .ok (.invokevirtual 51, 3) := by decide +kernel
theorem dX1_leastWall_12 : decode cX1_leastWall 12 = .ok (.if_icmp .ge 54, 3) := by decide +kernel
theorem dX1_leastWall_15 : decode cX1_leastWall 15 = .ok (.iconst 0, 1) := by decide +kernel
theorem dX1_leastWall_16 : decode cX1_leastWall 16 = .ok (.istore_n 3, 1) := by decide +kernel
theorem dX1_leastWall_17 : decode cX1_leastWall 17 = .ok (.iload_n 3, 1) := by decide +kernel
theorem dX1_leastWall_18 : decode cX1_leastWall 18 = .ok (.aload_n 0, 1) := by decide +kernel
theorem dX1_leastWall_19 : decode cX1_leastWall 19 = .ok (.getfield 32, 3) := by decide +kernel
theorem dX1_leastWall_22 : decode cX1_leastWall 22 = .ok (.invokevirtual 54, 3) := by decide +kernel
theorem dX1_leastWall_25 : decode cX1_leastWall 25 = .ok (.if_icmp .ge 35, 3) := by decide +kernel
theorem dX1_leastWall_28 : decode cX1_leastWall 28 = .ok (.aload_n 0, 1) := by decide +kernel
theorem dX1_leastWall_29 : decode cX1_leastWall 29 = .ok (.iload_n 3, 1) := by decide +kernel
theorem dX1_leastWall_30 : decode cX1_leastWall 30 = .ok (.iload_n 2, 1) := by decide +kernel
theorem dX1_leastWall_31 : decode cX1_leastWall 31 = .ok (.invokevirtual 85, 3) := by decide +kernel
theorem dX1_leastWall_34 : decode cX1_leastWall 34 = .ok (.istore 4, 2) := by decide +kernel
theorem dX1_leastWall_36 : decode cX1_leastWall 36 = .ok (.iload 4, 2) := by decide +kernel
theorem dX1_leastWall_38 : decode cX1_leastWall 38 = .ok (.ifCond .le 16, 3) := by decide +kernel
theorem dX1_leastWall_41 : decode cX1_leastWall 41 = .ok (.iload_n 1, 1) := by decide +kernel
theorem dX1_leastWall_42 : decode cX1_leastWall 42 = .ok (.ifCond .eq 9, 3) := by decide +kernel
theorem dX1_leastWall_45 : decode cX1_leastWall 45 = .ok (.iload 4, 2) := by decide +kernel
theorem dX1_leastWall_47 : decode cX1_leastWall 47 = .ok (.iload_n 1, 1) := by decide +kernel
theorem dX1_leastWall_48 : decode cX1_leastWall 48 = .ok (.if_icmp .ge 6, 3) := by decide +kernel
theorem dX1_leastWall_51 : decode cX1_leastWall 51 = .ok (.iload 4, 2) := by decide +kernel
theorem dX1_leastWall_53 : decode cX1_leastWall 53 = .ok (.istore_n 1, 1) := by decide +kernel
theorem dX1_leastWall_54 : decode cX1_leastWall 54 = .ok (.iinc 3 1, 3) := by decide +kernel
theorem dX1_leastWall_57 : decode cX1_leastWall 57 = .ok (.goto (-40), 3) := by decide +kernel
theorem dX1_leastWall_60 : decode cX1_leastWall 60 = .ok (.iinc 2 1, 3) := by decide +kernel
theorem dX1_leastWall_63 : decode cX1_leastWall 63 = .ok (.goto (-59), 3) := by decide +kernel
theorem dX1_leastWall_66 : decode cX1_leastWall 66 = .ok (.iload_n 1, 1) := by decide +kernel
theorem dX1_leastWall_67 : decode cX1_leastWall 67 = .ok (.ireturn, 1) := by decide +kernel
theorem dX1_isMetal_0 : decode cX1_isMetal 0 = .ok (.aload_n 0, 1) := by decide +kernel
theorem dX1_isMetal_1 : decode cX1_isMetal 1 = .ok (.getfield 32, 3) := by decide +kernel
theorem dX1_isMetal_4 : decode cX1_isMetal 4 = .ok (.iload_n 1, 1) := by decide +kernel
theorem dX1_isMetal_5 : decode cX1_isMetal 5 = .ok (.iload_n 2, 1) := by decide +kernel
theorem dX1_isMetal_6 : decode cX1_isMetal 6 = .ok (.invokevirtual 47, 3) := by decide +kernel
theorem dX1_isMetal_9 : decode cX1_isMetal 9 = .ok (.ifCond .ne 5, 3) := by decide +kernel
theorem dX1_isMetal_12 : decode cX1_isMetal 12 = .ok (.iconst 0, 1) := by decide +kernel
theorem dX1_isMetal_13 : decode cX1_isMetal 13 = .ok (.ireturn, 1) := by decide +kernel
theorem dX1_isMetal_14 : decode cX1_isMetal 14 = .ok (.aload_n 0, 1) := by decide +kernel
theorem dX1_isMetal_15 : decode cX1_isMetal 15 = .ok (.getfield 9, 3) := by decide +kernel
theorem dX1_isMetal_18 : decode cX1_isMetal 18 = .ok (.iload_n 2, 1) := by decide +kernel
theorem dX1_isMetal_19 : decode cX1_isMetal 19 = .ok (.bipush 12, 2) := by decide +kernel
theorem dX1_isMetal_21 : decode cX1_isMetal 21 = .ok (.imul, 1) := by decide +kernel
theorem dX1_isMetal_22 : decode cX1_isMetal 22 = .ok (.iload_n 1, 1) := by decide +kernel
theorem dX1_isMetal_23 : decode cX1_isMetal 23 = .ok (.iadd, 1) := by decide +kernel
theorem dX1_isMetal_24 : decode cX1_isMetal 24 = .ok (.iaload, 1) := by decide +kernel
theorem dX1_isMetal_25 : decode cX1_isMetal 25 = .ok (.istore_n 3, 1) := by decide +kernel
theorem dX1_isMetal_26 : decode cX1_isMetal 26 = .ok (.iload_n 3, 1) := by decide +kernel
theorem dX1_isMetal_27 : decode cX1_isMetal 27 = .ok (.iconst 1, 1) := by decide +kernel
theorem dX1_isMetal_28 : decode cX1_isMetal 28 = .ok (.if_icmp .eq 8, 3) := by decide +kernel
theorem dX1_isMetal_31 : decode cX1_isMetal 31 = .ok (.iload_n 3, 1) := by decide +kernel
theorem dX1_isMetal_32 : decode cX1_isMetal 32 = .ok (.iconst 5, 1) := by decide +kernel
theorem dX1_isMetal_33 : decode cX1_isMetal 33 = .ok (.if_icmp .ne 7, 3) := by decide +kernel
theorem dX1_isMetal_36 : decode cX1_isMetal 36 = .ok (.iconst 1, 1) := by decide +kernel
theorem dX1_isMetal_37 : decode cX1_isMetal 37 = .ok (.goto 4, 3) := by decide +kernel
theorem dX1_isMetal_40 : decode cX1_isMetal 40 = .ok (.iconst 0, 1) := by decide +kernel
theorem dX1_isMetal_41 : decode cX1_isMetal 41 = .ok (.ireturn, 1) := by decide +kernel
theorem dX1_stretch_0 : decode cX1_stretch 0 = .ok (.iconst 0, 1) := by decide +kernel
theorem dX1_stretch_1 : decode cX1_stretch 1 = .ok (.istore 4, 2) := by decide +kernel
theorem dX1_stretch_3 : decode cX1_stretch 3 = .ok (.iconst 1, 1) := by decide +kernel
theorem dX1_stretch_4 : decode cX1_stretch 4 = .ok (.istore 5, 2) := by decide +kernel
theorem dX1_stretch_6 : decode cX1_stretch 6 = .ok (.iload 5, 2) := by decide +kernel
theorem dX1_stretch_8 : decode cX1_stretch 8 = .ok (.bipush 12, 2) := by decide +kernel
theorem dX1_stretch_10 : decode cX1_stretch 10 = .ok (.if_icmp .ge 42, 3) := by decide +kernel
theorem dX1_stretch_13 : decode cX1_stretch 13 = .ok (.aload_n 0, 1) := by decide +kernel
theorem dX1_stretch_14 : decode cX1_stretch 14 = .ok (.iload_n 1, 1) := by decide +kernel
theorem dX1_stretch_15 : decode cX1_stretch 15 = .ok (.iload 5, 2) := by decide +kernel
theorem dX1_stretch_17 : decode cX1_stretch 17 = .ok (.getstatic 64, 3) := by decide +kernel
theorem dX1_stretch_20 : decode cX1_stretch 20 = .ok (.iload_n 3, 1) := by decide +kernel
theorem dX1_stretch_21 : decode cX1_stretch 21 = .ok (.iaload, 1) := by decide +kernel
theorem dX1_stretch_22 : decode cX1_stretch 22 = .ok (.imul, 1) := by decide +kernel
theorem dX1_stretch_23 : decode cX1_stretch 23 = .ok (.iadd, 1) := by decide +kernel
theorem dX1_stretch_24 : decode cX1_stretch 24 = .ok (.iload_n 2, 1) := by decide +kernel
theorem dX1_stretch_25 : decode cX1_stretch 25 = .ok (.iload 5, 2) := by decide +kernel
theorem dX1_stretch_27 : decode cX1_stretch 27 = .ok (.getstatic 67, 3) := by decide +kernel
theorem dX1_stretch_30 : decode cX1_stretch 30 = .ok (.iload_n 3, 1) := by decide +kernel
theorem dX1_stretch_31 : decode cX1_stretch 31 = .ok (.iaload, 1) := by decide +kernel
theorem dX1_stretch_32 : decode cX1_stretch 32 = .ok (.imul, 1) := by decide +kernel
theorem dX1_stretch_33 : decode cX1_stretch 33 = .ok (.iadd, 1) := by decide +kernel
theorem dX1_stretch_34 : decode cX1_stretch 34 = .ok (.invokevirtual 70, 3) := by decide +kernel
theorem dX1_stretch_37 : decode cX1_stretch 37 = .ok (.ifCond .ne 6, 3) := by decide +kernel
theorem dX1_stretch_40 : decode cX1_stretch 40 = .ok (.goto 12, 3) := by decide +kernel
theorem dX1_stretch_43 : decode cX1_stretch 43 = .ok (.iinc 4 1, 3) := by decide +kernel
theorem dX1_stretch_46 : decode cX1_stretch 46 = .ok (.iinc 5 1, 3) := by decide +kernel
theorem dX1_stretch_49 : decode cX1_stretch 49 = .ok (.goto (-43), 3) := by decide +kernel
theorem dX1_stretch_52 : decode cX1_stretch 52 = .ok (.iload 4, 2) := by decide +kernel
theorem dX1_stretch_54 : decode cX1_stretch 54 = .ok (.ireturn, 1) := by decide +kernel
theorem dX1_letMetalCome_0 : decode cX1_letMetalCome 0 = .ok (.aload_n 0, 1) := by decide +kernel
theorem dX1_letMetalCome_1 : decode cX1_letMetalCome 1 = .ok (.invokevirtual 88, 3) := by decide +kernel
theorem dX1_letMetalCome_4 : decode cX1_letMetalCome 4 = .ok (.iconst 0, 1) := by decide +kernel
theorem dX1_letMetalCome_5 : decode cX1_letMetalCome 5 = .ok (.istore_n 1, 1) := by decide +kernel
theorem dX1_letMetalCome_6 : decode cX1_letMetalCome 6 = .ok (.iload_n 1, 1) := by decide +kernel
theorem dX1_letMetalCome_7 : decode cX1_letMetalCome 7 = .ok (.aload_n 0, 1) := by decide +kernel
theorem dX1_letMetalCome_8 : decode cX1_letMetalCome 8 = .ok (.getfield 32, 3) := by decide +kernel
theorem dX1_letMetalCome_11 : decode cX1_letMetalCome 11 = .ok (.invokevirtual 51, 3) := by decide +kernel
theorem dX1_letMetalCome_14 : decode cX1_letMetalCome 14 = .ok (.if_icmp .ge 47, 3) := by decide +kernel
theorem dX1_letMetalCome_17 : decode cX1_letMetalCome 17 = .ok (.iconst 0, 1) := by decide +kernel
theorem dX1_letMetalCome_18 : decode cX1_letMetalCome 18 = .ok (.istore_n 2, 1) := by decide +kernel
theorem dX1_letMetalCome_19 : decode cX1_letMetalCome 19 = .ok (.iload_n 2, 1) := by decide +kernel
theorem dX1_letMetalCome_20 : decode cX1_letMetalCome 20 = .ok (.aload_n 0, 1) := by decide +kernel
theorem dX1_letMetalCome_21 : decode cX1_letMetalCome 21 = .ok (.getfield 32, 3) := by decide +kernel
theorem dX1_letMetalCome_24 : decode cX1_letMetalCome 24 = .ok (.invokevirtual 54, 3) := by decide +kernel
theorem dX1_letMetalCome_27 : decode cX1_letMetalCome 27 = .ok (.if_icmp .ge 28, 3) := by decide +kernel
theorem dX1_letMetalCome_30 : decode cX1_letMetalCome 30 = .ok (.aload_n 0, 1) := by decide +kernel
theorem dX1_letMetalCome_31 : decode cX1_letMetalCome 31 = .ok (.getfield 32, 3) := by decide +kernel
theorem dX1_letMetalCome_34 : decode cX1_letMetalCome 34 = .ok (.iload_n 2, 1) := by decide +kernel
theorem dX1_letMetalCome_35 : decode cX1_letMetalCome 35 = .ok (.iload_n 1, 1) := by decide +kernel
theorem dX1_letMetalCome_36 : decode cX1_letMetalCome 36 = .ok (.invokevirtual 91, 3) := by decide +kernel
theorem dX1_letMetalCome_39 : decode cX1_letMetalCome 39 = .ok (.iconst 3, 1) := by decide +kernel
theorem dX1_letMetalCome_40 : decode cX1_letMetalCome 40 = .ok (.if_icmp .ne 9, 3) := by decide +kernel
theorem dX1_letMetalCome_43 : decode cX1_letMetalCome 43 = .ok (.aload_n 0, 1) := by decide +kernel
theorem dX1_letMetalCome_44 : decode cX1_letMetalCome 44 = .ok (.iload_n 2, 1) := by decide +kernel
theorem dX1_letMetalCome_45 : decode cX1_letMetalCome 45 = .ok (.iload_n 1, 1) := by decide +kernel
theorem dX1_letMetalCome_46 : decode cX1_letMetalCome 46 = .ok (.invokevirtual 94, 3) := by decide +kernel
theorem dX1_letMetalCome_49 : decode cX1_letMetalCome 49 = .ok (.iinc 2 1, 3) := by decide +kernel
theorem dX1_letMetalCome_52 : decode cX1_letMetalCome 52 = .ok (.goto (-33), 3) := by decide +kernel
theorem dX1_letMetalCome_55 : decode cX1_letMetalCome 55 = .ok (.iinc 1 1, 3) := by decide +kernel
theorem dX1_letMetalCome_58 : decode cX1_letMetalCome 58 = .ok (.goto (-52), 3) := by decide +kernel
theorem dX1_letMetalCome_61 : decode cX1_letMetalCome 61 = .ok (.aload_n 0, 1) := by decide +kernel
theorem dX1_letMetalCome_62 : decode cX1_letMetalCome 62 = .ok (.iconst 0, 1) := by decide +kernel
theorem dX1_letMetalCome_63 : decode cX1_letMetalCome 63 = .ok (.invokevirtual 98, 3) := by decide +kernel
theorem dX1_letMetalCome_66 : decode cX1_letMetalCome 66 = .ok (.iconst 0, 1) := by decide +kernel
theorem dX1_letMetalCome_67 : decode cX1_letMetalCome 67 = .ok (.istore_n 1, 1) := by decide +kernel
theorem dX1_letMetalCome_68 : decode cX1_letMetalCome 68 = .ok (.iload_n 1, 1) := by decide +kernel
theorem dX1_letMetalCome_69 : decode cX1_letMetalCome 69 = .ok (.aload_n 0, 1) := by decide +kernel
theorem dX1_letMetalCome_70 : decode cX1_letMetalCome 70 = .ok (.getfield 32, 3) := by decide +kernel
theorem dX1_letMetalCome_73 : decode cX1_letMetalCome 73 = .ok (.invokevirtual 51, 3) := by decide +kernel
theorem dX1_letMetalCome_76 : decode cX1_letMetalCome 76 = .ok (.if_icmp .ge 45, 3) := by decide +kernel
theorem dX1_letMetalCome_79 : decode cX1_letMetalCome 79 = .ok (.iconst 0, 1) := by decide +kernel
theorem dX1_letMetalCome_80 : decode cX1_letMetalCome 80 = .ok (.istore_n 2, 1) := by decide +kernel
theorem dX1_letMetalCome_81 : decode cX1_letMetalCome 81 = .ok (.iload_n 2, 1) := by decide +kernel
theorem dX1_letMetalCome_82 : decode cX1_letMetalCome 82 = .ok (.aload_n 0, 1) := by decide +kernel
theorem dX1_letMetalCome_83 : decode cX1_letMetalCome 83 = .ok (.getfield 32, 3) := by decide +kernel
theorem dX1_letMetalCome_86 : decode cX1_letMetalCome 86 = .ok (.invokevirtual 54, 3) := by decide +kernel
theorem dX1_letMetalCome_89 : decode cX1_letMetalCome 89 = .ok (.if_icmp .ge 26, 3) := by decide +kernel
theorem dX1_letMetalCome_92 : decode cX1_letMetalCome 92 = .ok (.aload_n 0, 1) := by decide +kernel
theorem dX1_letMetalCome_93 : decode cX1_letMetalCome 93 = .ok (.getfield 9, 3) := by decide +kernel
theorem dX1_letMetalCome_96 : decode cX1_letMetalCome 96 = .ok (.iload_n 1, 1) := by decide +kernel
theorem dX1_letMetalCome_97 : decode cX1_letMetalCome 97 = .ok (.bipush 12, 2) := by decide +kernel
theorem dX1_letMetalCome_99 : decode cX1_letMetalCome 99 = .ok (.imul, 1) := by decide +kernel
theorem dX1_letMetalCome_100 : decode cX1_letMetalCome 100 = .ok (.iload_n 2, 1) := by decide +kernel
theorem dX1_letMetalCome_101 : decode cX1_letMetalCome 101 = .ok (.iadd, 1) := by decide +kernel
theorem dX1_letMetalCome_102 : decode cX1_letMetalCome 102 = .ok (.aload_n 0, 1) := by decide +kernel
theorem dX1_letMetalCome_103 : decode cX1_letMetalCome 103 = .ok (.iload_n 2, 1) := by decide +kernel
theorem dX1_letMetalCome_104 : decode cX1_letMetalCome 104 = .ok (.iload_n 1, 1) := by decide +kernel
theorem dX1_letMetalCome_105 : decode cX1_letMetalCome 105 = .ok (.invokevirtual 102, 3) := by decide +kernel
theorem dX1_letMetalCome_108 : decode cX1_letMetalCome 108 = .ok (.iastore, 1) := by decide +kernel
theorem dX1_letMetalCome_109 : decode cX1_letMetalCome 109 = .ok (.iinc 2 1, 3) := by decide +kernel
theorem dX1_letMetalCome_112 : decode cX1_letMetalCome 112 = .ok (.goto (-31), 3) := by decide +kernel
theorem dX1_letMetalCome_115 : decode cX1_letMetalCome 115 = .ok (.iinc 1 1, 3) := by decide +kernel
theorem dX1_letMetalCome_118 : decode cX1_letMetalCome 118 = .ok (.goto (-50), 3) := by decide +kernel
theorem dX1_letMetalCome_121 : decode cX1_letMetalCome 121 = .ok (.return_, 1) := by decide +kernel
theorem dX1_fateWithAir_0 : decode cX1_fateWithAir 0 = .ok (.aload_n 0, 1) := by decide +kernel
theorem dX1_fateWithAir_1 : decode cX1_fateWithAir 1 = .ok (.getfield 32, 3) := by decide +kernel
theorem dX1_fateWithAir_4 : decode cX1_fateWithAir 4 = .ok (.iload_n 1, 1) := by decide +kernel
theorem dX1_fateWithAir_5 : decode cX1_fateWithAir 5 = .ok (.iload_n 2, 1) := by decide +kernel
theorem dX1_fateWithAir_6 : decode cX1_fateWithAir 6 = .ok (.invokevirtual 105, 3) := by decide +kernel
theorem dX1_fateWithAir_9 : decode cX1_fateWithAir 9 = .ok (.ifCond .eq 18, 3) := by decide +kernel
theorem dX1_fateWithAir_12 : decode cX1_fateWithAir 12 = .ok (.aload_n 0, 1) := by decide +kernel
theorem dX1_fateWithAir_13 : decode cX1_fateWithAir 13 = .ok (.iload_n 1, 1) := by decide +kernel
theorem dX1_fateWithAir_14 : decode cX1_fateWithAir 14 = .ok (.iload_n 2, 1) := by decide +kernel
theorem dX1_fateWithAir_15 : decode cX1_fateWithAir 15 = .ok (.invokevirtual 108, 3) := by decide +kernel
theorem dX1_fateWithAir_18 : decode cX1_fateWithAir 18 = .ok (.ifCond .eq 7, 3) := by decide +kernel
theorem dX1_fateWithAir_21 : decode cX1_fateWithAir 21 = .ok (.iconst 3, 1) := by decide +kernel
theorem dX1_fateWithAir_22 : decode cX1_fateWithAir 22 = .ok (.goto 4, 3) := by decide +kernel
theorem dX1_fateWithAir_25 : decode cX1_fateWithAir 25 = .ok (.iconst 2, 1) := by decide +kernel
theorem dX1_fateWithAir_26 : decode cX1_fateWithAir 26 = .ok (.ireturn, 1) := by decide +kernel
theorem dX1_fateWithAir_27 : decode cX1_fateWithAir 27 = .ok (.aload_n 0, 1) := by decide +kernel
theorem dX1_fateWithAir_28 : decode cX1_fateWithAir 28 = .ok (.getfield 32, 3) := by decide +kernel
theorem dX1_fateWithAir_31 : decode cX1_fateWithAir 31 = .ok (.iload_n 1, 1) := by decide +kernel
theorem dX1_fateWithAir_32 : decode cX1_fateWithAir 32 = .ok (.iload_n 2, 1) := by decide +kernel
theorem dX1_fateWithAir_33 : decode cX1_fateWithAir 33 = .ok (.invokevirtual 91, 3) := by decide +kernel
theorem dX1_fateWithAir_36 : decode cX1_fateWithAir 36 = .ok (.iconst 2, 1) := by decide +kernel
theorem dX1_fateWithAir_37 : decode cX1_fateWithAir 37 = .ok (.if_icmp .ne 7, 3) := by decide +kernel
theorem dX1_fateWithAir_40 : decode cX1_fateWithAir 40 = .ok (.iconst 1, 1) := by decide +kernel
theorem dX1_fateWithAir_41 : decode cX1_fateWithAir 41 = .ok (.goto 4, 3) := by decide +kernel
theorem dX1_fateWithAir_44 : decode cX1_fateWithAir 44 = .ok (.iconst 0, 1) := by decide +kernel
theorem dX1_fateWithAir_45 : decode cX1_fateWithAir 45 = .ok (.ireturn, 1) := by decide +kernel
theorem dX1_letAirOut_0 : decode cX1_letAirOut 0 = .ok (.aload_n 0, 1) := by decide +kernel
theorem dX1_letAirOut_1 : decode cX1_letAirOut 1 = .ok (.invokevirtual 88, 3) := by decide +kernel
theorem dX1_letAirOut_4 : decode cX1_letAirOut 4 = .ok (.aload_n 0, 1) := by decide +kernel
theorem dX1_letAirOut_5 : decode cX1_letAirOut 5 = .ok (.getfield 32, 3) := by decide +kernel
theorem dX1_letAirOut_8 : decode cX1_letAirOut 8 = .ok (.invokevirtual 51, 3) := by decide +kernel
theorem dX1_letAirOut_11 : decode cX1_letAirOut 11 = .ok (.iconst 1, 1) := by decide +kernel
theorem dX1_letAirOut_12 : decode cX1_letAirOut 12 = .ok (.isub, 1) := by decide +kernel
theorem dX1_letAirOut_13 : decode cX1_letAirOut 13 = .ok (.istore_n 1, 1) := by decide +kernel
theorem dX1_letAirOut_14 : decode cX1_letAirOut 14 = .ok (.iload_n 1, 1) := by decide +kernel
theorem dX1_letAirOut_15 : decode cX1_letAirOut 15 = .ok (.ifCond .lt 75, 3) := by decide +kernel
theorem dX1_letAirOut_18 : decode cX1_letAirOut 18 = .ok (.iconst 0, 1) := by decide +kernel
theorem dX1_letAirOut_19 : decode cX1_letAirOut 19 = .ok (.istore_n 2, 1) := by decide +kernel
theorem dX1_letAirOut_20 : decode cX1_letAirOut 20 = .ok (.iload_n 2, 1) := by decide +kernel
theorem dX1_letAirOut_21 : decode cX1_letAirOut 21 = .ok (.aload_n 0, 1) := by decide +kernel
theorem dX1_letAirOut_22 : decode cX1_letAirOut 22 = .ok (.getfield 32, 3) := by decide +kernel
theorem dX1_letAirOut_25 : decode cX1_letAirOut 25 = .ok (.invokevirtual 54, 3) := by decide +kernel
theorem dX1_letAirOut_28 : decode cX1_letAirOut 28 = .ok (.if_icmp .ge 46, 3) := by decide +kernel
theorem dX1_letAirOut_31 : decode cX1_letAirOut 31 = .ok (.aload_n 0, 1) := by decide +kernel
theorem dX1_letAirOut_32 : decode cX1_letAirOut 32 = .ok (.getfield 32, 3) := by decide +kernel
theorem dX1_letAirOut_35 : decode cX1_letAirOut 35 = .ok (.iload_n 2, 1) := by decide +kernel
theorem dX1_letAirOut_36 : decode cX1_letAirOut 36 = .ok (.iload_n 1, 1) := by decide +kernel
theorem dX1_letAirOut_37 : decode cX1_letAirOut 37 = .ok (.invokevirtual 91, 3) := by decide +kernel
theorem dX1_letAirOut_40 : decode cX1_letAirOut 40 = .ok (.istore_n 3, 1) := by decide +kernel
theorem dX1_letAirOut_41 : decode cX1_letAirOut 41 = .ok (.iload_n 3, 1) := by decide +kernel
theorem dX1_letAirOut_42 : decode cX1_letAirOut 42 = .ok (.iconst 3, 1) := by decide +kernel
theorem dX1_letAirOut_43 : decode cX1_letAirOut 43 = .ok (.if_icmp .eq 19, 3) := by decide +kernel
theorem dX1_letAirOut_46 : decode cX1_letAirOut 46 = .ok (.iload_n 3, 1) := by decide +kernel
theorem dX1_letAirOut_47 : decode cX1_letAirOut 47 = .ok (.iconst 4, 1) := by decide +kernel
theorem dX1_letAirOut_48 : decode cX1_letAirOut 48 = .ok (.if_icmp .eq 14, 3) := by decide +kernel
theorem dX1_letAirOut_51 : decode cX1_letAirOut 51 = .ok (.aload_n 0, 1) := by decide +kernel
theorem dX1_letAirOut_52 : decode cX1_letAirOut 52 = .ok (.iload_n 2, 1) := by decide +kernel
theorem dX1_letAirOut_53 : decode cX1_letAirOut 53 = .ok (.iload_n 1, 1) := by decide +kernel
theorem dX1_letAirOut_54 : decode cX1_letAirOut 54 = .ok (.iconst 1, 1) := by decide +kernel
theorem dX1_letAirOut_55 : decode cX1_letAirOut 55 = .ok (.iadd, 1) := by decide +kernel
theorem dX1_letAirOut_56 : decode cX1_letAirOut 56 = .ok (.invokevirtual 108, 3) := by decide +kernel
theorem dX1_letAirOut_59 : decode cX1_letAirOut 59 = .ok (.ifCond .eq 9, 3) := by decide +kernel
theorem dX1_letAirOut_62 : decode cX1_letAirOut 62 = .ok (.aload_n 0, 1) := by decide +kernel
theorem dX1_letAirOut_63 : decode cX1_letAirOut 63 = .ok (.iload_n 2, 1) := by decide +kernel
theorem dX1_letAirOut_64 : decode cX1_letAirOut 64 = .ok (.iload_n 1, 1) := by decide +kernel
theorem dX1_letAirOut_65 : decode cX1_letAirOut 65 = .ok (.invokevirtual 94, 3) := by decide +kernel
theorem dX1_letAirOut_68 : decode cX1_letAirOut 68 = .ok (.iinc 2 1, 3) := by decide +kernel
theorem dX1_letAirOut_71 : decode cX1_letAirOut 71 = .ok (.goto (-51), 3) := by decide +kernel
theorem dX1_letAirOut_74 : decode cX1_letAirOut 74 = .ok (.aload_n 0, 1) := by decide +kernel
theorem dX1_letAirOut_75 : decode cX1_letAirOut 75 = .ok (.iload_n 1, 1) := by decide +kernel
theorem dX1_letAirOut_76 : decode cX1_letAirOut 76 = .ok (.invokevirtual 98, 3) := by decide +kernel
theorem dX1_letAirOut_79 : decode cX1_letAirOut 79 = .ok (.aload_n 0, 1) := by decide +kernel
theorem dX1_letAirOut_80 : decode cX1_letAirOut 80 = .ok (.iload_n 1, 1) := by decide +kernel
theorem dX1_letAirOut_81 : decode cX1_letAirOut 81 = .ok (.invokevirtual 111, 3) := by decide +kernel
theorem dX1_letAirOut_84 : decode cX1_letAirOut 84 = .ok (.iinc 1 (-1), 3) := by decide +kernel
theorem dX1_letAirOut_87 : decode cX1_letAirOut 87 = .ok (.goto (-73), 3) := by decide +kernel
theorem dX1_letAirOut_90 : decode cX1_letAirOut 90 = .ok (.return_, 1) := by decide +kernel
theorem dX1_castRow_0 : decode cX1_castRow 0 = .ok (.iconst 0, 1) := by decide +kernel
theorem dX1_castRow_1 : decode cX1_castRow 1 = .ok (.istore_n 2, 1) := by decide +kernel
theorem dX1_castRow_2 : decode cX1_castRow 2 = .ok (.iload_n 2, 1) := by decide +kernel
theorem dX1_castRow_3 : decode cX1_castRow 3 = .ok (.aload_n 0, 1) := by decide +kernel
theorem dX1_castRow_4 : decode cX1_castRow 4 = .ok (.getfield 32, 3) := by decide +kernel
theorem dX1_castRow_7 : decode cX1_castRow 7 = .ok (.invokevirtual 54, 3) := by decide +kernel
theorem dX1_castRow_10 : decode cX1_castRow 10 = .ok (.if_icmp .ge 40, 3) := by decide +kernel
theorem dX1_castRow_13 : decode cX1_castRow 13 = .ok (.aload_n 0, 1) := by decide +kernel
theorem dX1_castRow_14 : decode cX1_castRow 14 = .ok (.iload_n 2, 1) := by decide +kernel
theorem dX1_castRow_15 : decode cX1_castRow 15 = .ok (.iload_n 1, 1) := by decide +kernel
theorem dX1_castRow_16 : decode cX1_castRow 16 = .ok (.invokevirtual 57, 3) := by decide +kernel
theorem dX1_castRow_19 : decode cX1_castRow 19 = .ok (.iconst 3, 1) := by decide +kernel
theorem dX1_castRow_20 : decode cX1_castRow 20 = .ok (.if_icmp .ne 24, 3) := by decide +kernel
theorem dX1_castRow_23 : decode cX1_castRow 23 = .ok (.aload_n 0, 1) := by decide +kernel
theorem dX1_castRow_24 : decode cX1_castRow 24 = .ok (.iload_n 2, 1) := by decide +kernel
theorem dX1_castRow_25 : decode cX1_castRow 25 = .ok (.iload_n 1, 1) := by decide +kernel
theorem dX1_castRow_26 : decode cX1_castRow 26 = .ok (.invokevirtual 108, 3) := by decide +kernel
theorem dX1_castRow_29 : decode cX1_castRow 29 = .ok (.ifCond .eq 15, 3) := by decide +kernel
theorem dX1_castRow_32 : decode cX1_castRow 32 = .ok (.aload_n 0, 1) := by decide +kernel
theorem dX1_castRow_33 : decode cX1_castRow 33 = .ok (.getfield 9, 3) := by decide +kernel
theorem dX1_castRow_36 : decode cX1_castRow 36 = .ok (.iload_n 1, 1) := by decide +kernel
theorem dX1_castRow_37 : decode cX1_castRow 37 = .ok (.bipush 12, 2) := by decide +kernel
theorem dX1_castRow_39 : decode cX1_castRow 39 = .ok (.imul, 1) := by decide +kernel
theorem dX1_castRow_40 : decode cX1_castRow 40 = .ok (.iload_n 2, 1) := by decide +kernel
theorem dX1_castRow_41 : decode cX1_castRow 41 = .ok (.iadd, 1) := by decide +kernel
theorem dX1_castRow_42 : decode cX1_castRow 42 = .ok (.iconst 1, 1) := by decide +kernel
theorem dX1_castRow_43 : decode cX1_castRow 43 = .ok (.iastore, 1) := by decide +kernel
theorem dX1_castRow_44 : decode cX1_castRow 44 = .ok (.iinc 2 1, 3) := by decide +kernel
theorem dX1_castRow_47 : decode cX1_castRow 47 = .ok (.goto (-45), 3) := by decide +kernel
theorem dX1_castRow_50 : decode cX1_castRow 50 = .ok (.return_, 1) := by decide +kernel
theorem dX1_startFlood_0 : decode cX1_startFlood 0 = .ok (.iconst 0, 1) := by decide +kernel
theorem dX1_startFlood_1 : decode cX1_startFlood 1 = .ok (.istore_n 1, 1) := by decide +kernel
theorem dX1_startFlood_2 : decode cX1_startFlood 2 = .ok (.iload_n 1, 1) := by decide +kernel
theorem dX1_startFlood_3 : decode cX1_startFlood 3 = .ok (.sipush 144, 3) := by decide +kernel
theorem dX1_startFlood_6 : decode cX1_startFlood 6 = .ok (.if_icmp .ge 16, 3) := by decide +kernel
theorem dX1_startFlood_9 : decode cX1_startFlood 9 = .ok (.aload_n 0, 1) := by decide +kernel
theorem dX1_startFlood_10 : decode cX1_startFlood 10 = .ok (.getfield 15, 3) := by decide +kernel
theorem dX1_startFlood_13 : decode cX1_startFlood 13 = .ok (.iload_n 1, 1) := by decide +kernel
theorem dX1_startFlood_14 : decode cX1_startFlood 14 = .ok (.iconst 0, 1) := by decide +kernel
theorem dX1_startFlood_15 : decode cX1_startFlood 15 = .ok (.bastore, 1) := by decide +kernel
theorem dX1_startFlood_16 : decode cX1_startFlood 16 = .ok (.iinc 1 1, 3) := by decide +kernel
theorem dX1_startFlood_19 : decode cX1_startFlood 19 = .ok (.goto (-17), 3) := by decide +kernel
theorem dX1_startFlood_22 : decode cX1_startFlood 22 = .ok (.aload_n 0, 1) := by decide +kernel
theorem dX1_startFlood_23 : decode cX1_startFlood 23 = .ok (.iconst 0, 1) := by decide +kernel
theorem dX1_startFlood_24 : decode cX1_startFlood 24 = .ok (.putfield 22, 3) := by decide +kernel
theorem dX1_startFlood_27 : decode cX1_startFlood 27 = .ok (.aload_n 0, 1) := by decide +kernel
theorem dX1_startFlood_28 : decode cX1_startFlood 28 = .ok (.iconst 0, 1) := by decide +kernel
theorem dX1_startFlood_29 : decode cX1_startFlood 29 = .ok (.putfield 26, 3) := by decide +kernel
theorem dX1_startFlood_32 : decode cX1_startFlood 32 = .ok (.return_, 1) := by decide +kernel
theorem dX1_isReached_0 : decode cX1_isReached 0 = .ok (.aload_n 0, 1) := by decide +kernel
theorem dX1_isReached_1 : decode cX1_isReached 1 = .ok (.getfield 32, 3) := by decide +kernel
theorem dX1_isReached_4 : decode cX1_isReached 4 = .ok (.iload_n 1, 1) := by decide +kernel
theorem dX1_isReached_5 : decode cX1_isReached 5 = .ok (.iload_n 2, 1) := by decide +kernel
theorem dX1_isReached_6 : decode cX1_isReached 6 = .ok (.invokevirtual 47, 3) := by decide +kernel
theorem dX1_isReached_9 : decode cX1_isReached 9 = .ok (.ifCond .eq 21, 3) := by decide +kernel
theorem dX1_isReached_12 : decode cX1_isReached 12 = .ok (.aload_n 0, 1) := by decide +kernel
theorem dX1_isReached_13 : decode cX1_isReached 13 = .ok (.getfield 15, 3) := by decide +kernel
theorem dX1_isReached_16 : decode cX1_isReached 16 = .ok (.iload_n 2, 1) := by decide +kernel
theorem dX1_isReached_17 : decode cX1_isReached 17 = .ok (.bipush 12, 2) := by decide +kernel
theorem dX1_isReached_19 : decode cX1_isReached 19 = .ok (.imul, 1) := by decide +kernel
theorem dX1_isReached_20 : decode cX1_isReached 20 = .ok (.iload_n 1, 1) := by decide +kernel
theorem dX1_isReached_21 : decode cX1_isReached 21 = .ok (.iadd, 1) := by decide +kernel
theorem dX1_isReached_22 : decode cX1_isReached 22 = .ok (.baload, 1) := by decide +kernel
theorem dX1_isReached_23 : decode cX1_isReached 23 = .ok (.ifCond .eq 7, 3) := by decide +kernel
theorem dX1_isReached_26 : decode cX1_isReached 26 = .ok (.iconst 1, 1) := by decide +kernel
theorem dX1_isReached_27 : decode cX1_isReached 27 = .ok (.goto 4, 3) := by decide +kernel
theorem dX1_isReached_30 : decode cX1_isReached 30 = .ok (.iconst 0, 1) := by decide +kernel
theorem dX1_isReached_31 : decode cX1_isReached 31 = .ok (.ireturn, 1) := by decide +kernel
theorem dX1_reach_0 : decode cX1_reach 0 = .ok (.aload_n 0, 1) := by decide +kernel
theorem dX1_reach_1 : decode cX1_reach 1 = .ok (.getfield 32, 3) := by decide +kernel
theorem dX1_reach_4 : decode cX1_reach 4 = .ok (.iload_n 1, 1) := by decide +kernel
theorem dX1_reach_5 : decode cX1_reach 5 = .ok (.iload_n 2, 1) := by decide +kernel
theorem dX1_reach_6 : decode cX1_reach 6 = .ok (.invokevirtual 105, 3) := by decide +kernel
theorem dX1_reach_9 : decode cX1_reach 9 = .ok (.ifCond .eq 22, 3) := by decide +kernel
theorem dX1_reach_12 : decode cX1_reach 12 = .ok (.aload_n 0, 1) := by decide +kernel
theorem dX1_reach_13 : decode cX1_reach 13 = .ok (.iload_n 1, 1) := by decide +kernel
theorem dX1_reach_14 : decode cX1_reach 14 = .ok (.iload_n 2, 1) := by decide +kernel
theorem dX1_reach_15 : decode cX1_reach 15 = .ok (.invokevirtual 108, 3) := by decide +kernel
theorem dX1_reach_18 : decode cX1_reach 18 = .ok (.ifCond .ne 13, 3) := by decide +kernel
theorem dX1_reach_21 : decode cX1_reach 21 = .ok (.aload_n 0, 1) := by decide +kernel
theorem dX1_reach_22 : decode cX1_reach 22 = .ok (.getfield 22, 3) := by decide +kernel
theorem dX1_reach_25 : decode cX1_reach 25 = .ok (.sipush 144, 3) := by decide +kernel
theorem dX1_reach_28 : decode cX1_reach 28 = .ok (.if_icmp .lt 4, 3) := by decide +kernel
theorem dX1_reach_31 : decode cX1_reach 31 = .ok (.return_, 1) := by decide +kernel
theorem dX1_reach_32 : decode cX1_reach 32 = .ok (.aload_n 0, 1) := by decide +kernel
theorem dX1_reach_33 : decode cX1_reach 33 = .ok (.getfield 15, 3) := by decide +kernel
theorem dX1_reach_36 : decode cX1_reach 36 = .ok (.iload_n 2, 1) := by decide +kernel
theorem dX1_reach_37 : decode cX1_reach 37 = .ok (.bipush 12, 2) := by decide +kernel
theorem dX1_reach_39 : decode cX1_reach 39 = .ok (.imul, 1) := by decide +kernel
theorem dX1_reach_40 : decode cX1_reach 40 = .ok (.iload_n 1, 1) := by decide +kernel
theorem dX1_reach_41 : decode cX1_reach 41 = .ok (.iadd, 1) := by decide +kernel
theorem dX1_reach_42 : decode cX1_reach 42 = .ok (.iconst 1, 1) := by decide +kernel
theorem dX1_reach_43 : decode cX1_reach 43 = .ok (.bastore, 1) := by decide +kernel
theorem dX1_reach_44 : decode cX1_reach 44 = .ok (.aload_n 0, 1) := by decide +kernel
theorem dX1_reach_45 : decode cX1_reach 45 = .ok (.getfield 19, 3) := by decide +kernel
theorem dX1_reach_48 : decode cX1_reach 48 = .ok (.aload_n 0, 1) := by decide +kernel
theorem dX1_reach_49 : decode cX1_reach 49 = .ok (.getfield 22, 3) := by decide +kernel
theorem dX1_reach_52 : decode cX1_reach 52 = .ok (.iload_n 2, 1) := by decide +kernel
theorem dX1_reach_53 : decode cX1_reach 53 = .ok (.bipush 12, 2) := by decide +kernel
theorem dX1_reach_55 : decode cX1_reach 55 = .ok (.imul, 1) := by decide +kernel
theorem dX1_reach_56 : decode cX1_reach 56 = .ok (.iload_n 1, 1) := by decide +kernel
theorem dX1_reach_57 : decode cX1_reach 57 = .ok (.iadd, 1) := by decide +kernel
theorem dX1_reach_58 : decode cX1_reach 58 = .ok (.iastore, 1) := by decide +kernel
theorem dX1_reach_59 : decode cX1_reach 59 = .ok (.aload_n 0, 1) := by decide +kernel
theorem dX1_reach_60 : decode cX1_reach 60 = .ok (.dup, 1) := by decide +kernel
theorem dX1_reach_61 : decode cX1_reach 61 = .ok (.getfield 22, 3) := by decide +kernel
theorem dX1_reach_64 : decode cX1_reach 64 = .ok (.iconst 1, 1) := by decide +kernel
theorem dX1_reach_65 : decode cX1_reach 65 = .ok (.iadd, 1) := by decide +kernel
theorem dX1_reach_66 : decode cX1_reach 66 = .ok (.putfield 22, 3) := by decide +kernel
theorem dX1_reach_69 : decode cX1_reach 69 = .ok (.return_, 1) := by decide +kernel
theorem dX1_flood_0 : decode cX1_flood 0 = .ok (.aload_n 0, 1) := by decide +kernel
theorem dX1_flood_1 : decode cX1_flood 1 = .ok (.getfield 26, 3) := by decide +kernel
theorem dX1_flood_4 : decode cX1_flood 4 = .ok (.aload_n 0, 1) := by decide +kernel
theorem dX1_flood_5 : decode cX1_flood 5 = .ok (.getfield 22, 3) := by decide +kernel
theorem dX1_flood_8 : decode cX1_flood 8 = .ok (.if_icmp .ge 99, 3) := by decide +kernel
theorem dX1_flood_11 : decode cX1_flood 11 = .ok (.aload_n 0, 1) := by decide +kernel
theorem dX1_flood_12 : decode cX1_flood 12 = .ok (.getfield 26, 3) := by decide +kernel
theorem dX1_flood_15 : decode cX1_flood 15 = .ok (.sipush 144, 3) := by decide +kernel
theorem dX1_flood_18 : decode cX1_flood 18 = .ok (.if_icmp .ge 89, 3) := by decide +kernel
theorem dX1_flood_21 : decode cX1_flood 21 = .ok (.aload_n 0, 1) := by decide +kernel
theorem dX1_flood_22 : decode cX1_flood 22 = .ok (.getfield 19, 3) := by decide +kernel
theorem dX1_flood_25 : decode cX1_flood 25 = .ok (.aload_n 0, 1) := by decide +kernel
theorem dX1_flood_26 : decode cX1_flood 26 = .ok (.getfield 26, 3) := by decide +kernel
theorem dX1_flood_29 : decode cX1_flood 29 = .ok (.iaload, 1) := by decide +kernel
theorem dX1_flood_30 : decode cX1_flood 30 = .ok (.bipush 12, 2) := by decide +kernel
theorem dX1_flood_32 : decode cX1_flood 32 = .ok (.irem, 1) := by decide +kernel
theorem dX1_flood_33 : decode cX1_flood 33 = .ok (.istore_n 2, 1) := by decide +kernel
theorem dX1_flood_34 : decode cX1_flood 34 = .ok (.aload_n 0, 1) := by decide +kernel
theorem dX1_flood_35 : decode cX1_flood 35 = .ok (.getfield 19, 3) := by decide +kernel
theorem dX1_flood_38 : decode cX1_flood 38 = .ok (.aload_n 0, 1) := by decide +kernel
theorem dX1_flood_39 : decode cX1_flood 39 = .ok (.getfield 26, 3) := by decide +kernel
theorem dX1_flood_42 : decode cX1_flood 42 = .ok (.iaload, 1) := by decide +kernel
theorem dX1_flood_43 : decode cX1_flood 43 = .ok (.bipush 12, 2) := by decide +kernel
theorem dX1_flood_45 : decode cX1_flood 45 = .ok (.idiv, 1) := by decide +kernel
theorem dX1_flood_46 : decode cX1_flood 46 = .ok (.istore_n 3, 1) := by decide +kernel
theorem dX1_flood_47 : decode cX1_flood 47 = .ok (.iconst 0, 1) := by decide +kernel
theorem dX1_flood_48 : decode cX1_flood 48 = .ok (.istore 4, 2) := by decide +kernel
theorem dX1_flood_50 : decode cX1_flood 50 = .ok (.iload 4, 2) := by decide +kernel
theorem dX1_flood_52 : decode cX1_flood 52 = .ok (.iconst 4, 1) := by decide +kernel
theorem dX1_flood_53 : decode cX1_flood 53 = .ok (.if_icmp .ge 41, 3) := by decide +kernel
theorem dX1_flood_56 : decode cX1_flood 56 = .ok (.iload_n 3, 1) := by decide +kernel
theorem dX1_flood_57 : decode cX1_flood 57 = .ok (.getstatic 67, 3) := by decide +kernel
theorem dX1_flood_60 : decode cX1_flood 60 = .ok (.iload 4, 2) := by decide +kernel
theorem dX1_flood_62 : decode cX1_flood 62 = .ok (.iaload, 1) := by decide +kernel
theorem dX1_flood_63 : decode cX1_flood 63 = .ok (.iadd, 1) := by decide +kernel
theorem dX1_flood_64 : decode cX1_flood 64 = .ok (.iload_n 1, 1) := by decide +kernel
theorem dX1_flood_65 : decode cX1_flood 65 = .ok (.if_icmp .lt 23, 3) := by decide +kernel
theorem dX1_flood_68 : decode cX1_flood 68 = .ok (.aload_n 0, 1) := by decide +kernel
theorem dX1_flood_69 : decode cX1_flood 69 = .ok (.iload_n 2, 1) := by decide +kernel
theorem dX1_flood_70 : decode cX1_flood 70 = .ok (.getstatic 64, 3) := by decide +kernel
theorem dX1_flood_73 : decode cX1_flood 73 = .ok (.iload 4, 2) := by decide +kernel
theorem dX1_flood_75 : decode cX1_flood 75 = .ok (.iaload, 1) := by decide +kernel
theorem dX1_flood_76 : decode cX1_flood 76 = .ok (.iadd, 1) := by decide +kernel
theorem dX1_flood_77 : decode cX1_flood 77 = .ok (.iload_n 3, 1) := by decide +kernel
theorem dX1_flood_78 : decode cX1_flood 78 = .ok (.getstatic 67, 3) := by decide +kernel
theorem dX1_flood_81 : decode cX1_flood 81 = .ok (.iload 4, 2) := by decide +kernel
theorem dX1_flood_83 : decode cX1_flood 83 = .ok (.iaload, 1) := by decide +kernel
theorem dX1_flood_84 : decode cX1_flood 84 = .ok (.iadd, 1) := by decide +kernel
theorem dX1_flood_85 : decode cX1_flood 85 = .ok (.invokevirtual 94, 3) := by decide +kernel
theorem dX1_flood_88 : decode cX1_flood 88 = .ok (.iinc 4 1, 3) := by decide +kernel
theorem dX1_flood_91 : decode cX1_flood 91 = .ok (.goto (-41), 3) := by decide +kernel
theorem dX1_flood_94 : decode cX1_flood 94 = .ok (.aload_n 0, 1) := by decide +kernel
theorem dX1_flood_95 : decode cX1_flood 95 = .ok (.dup, 1) := by decide +kernel
theorem dX1_flood_96 : decode cX1_flood 96 = .ok (.getfield 26, 3) := by decide +kernel
theorem dX1_flood_99 : decode cX1_flood 99 = .ok (.iconst 1, 1) := by decide +kernel
theorem dX1_flood_100 : decode cX1_flood 100 = .ok (.iadd, 1) := by decide +kernel
theorem dX1_flood_101 : decode cX1_flood 101 = .ok (.putfield 26, 3) := by decide +kernel
theorem dX1_flood_104 : decode cX1_flood 104 = .ok (.goto (-104), 3) := by decide +kernel
theorem dX1_flood_107 : decode cX1_flood 107 = .ok (.return_, 1) := by decide +kernel
theorem dX2_init_0 : decode cX2_init 0 = .ok (.aload_n 0, 1) := by decide +kernel
theorem dX2_init_1 : decode cX2_init 1 = .ok (.invokespecial 3, 3) := by decide +kernel
theorem dX2_init_4 : decode cX2_init 4 = .ok (.aload_n 0, 1) := by decide +kernel
theorem dX2_init_5 : decode cX2_init 5 = .ok (.sipush 144, 3) := by decide +kernel
theorem dX2_init_8 : decode cX2_init 8 = .ok (.newarray .int, 2) := by decide +kernel
theorem dX2_init_10 : decode cX2_init 10 = .ok (.putfield 9, 3) := by decide +kernel
theorem dX2_init_13 : decode cX2_init 13 = .ok (.aload_n 0, 1) := by decide +kernel
theorem dX2_init_14 : decode cX2_init 14 = .ok (.bipush 8, 2) := by decide +kernel
theorem dX2_init_16 : decode cX2_init 16 = .ok (.putfield 15, 3) := by decide +kernel
theorem dX2_init_19 : decode cX2_init 19 = .ok (.aload_n 0, 1) := by decide +kernel
theorem dX2_init_20 : decode cX2_init 20 = .ok (.bipush 8, 2) := by decide +kernel
theorem dX2_init_22 : decode cX2_init 22 = .ok (.putfield 19, 3) := by decide +kernel
theorem dX2_init_25 : decode cX2_init 25 = .ok (.aload_n 0, 1) := by decide +kernel
theorem dX2_init_26 : decode cX2_init 26 = .ok (.iconst 0, 1) := by decide +kernel
theorem dX2_init_27 : decode cX2_init 27 = .ok (.putfield 22, 3) := by decide +kernel
theorem dX2_init_30 : decode cX2_init 30 = .ok (.return_, 1) := by decide +kernel
theorem dX2_width_0 : decode cX2_width 0 = .ok (.aload_n 0, 1) := by decide +kernel
theorem dX2_width_1 : decode cX2_width 1 = .ok (.getfield 15, 3) := by decide +kernel
theorem dX2_width_4 : decode cX2_width 4 = .ok (.ireturn, 1) := by decide +kernel
theorem dX2_height_0 : decode cX2_height 0 = .ok (.aload_n 0, 1) := by decide +kernel
theorem dX2_height_1 : decode cX2_height 1 = .ok (.getfield 19, 3) := by decide +kernel
theorem dX2_height_4 : decode cX2_height 4 = .ok (.ireturn, 1) := by decide +kernel
theorem dX2_edition_0 : decode cX2_edition 0 = .ok (.aload_n 0, 1) := by decide +kernel
theorem dX2_edition_1 : decode cX2_edition 1 = .ok (.getfield 22, 3) := by decide +kernel
theorem dX2_edition_4 : decode cX2_edition 4 = .ok (.ireturn, 1) := by decide +kernel
theorem dX2_has_0 : decode cX2_has 0 = .ok (.iload_n 1, 1) := by decide +kernel
theorem dX2_has_1 : decode cX2_has 1 = .ok (.ifCond .lt 27, 3) := by decide +kernel
theorem dX2_has_4 : decode cX2_has 4 = .ok (.iload_n 1, 1) := by decide +kernel
theorem dX2_has_5 : decode cX2_has 5 = .ok (.aload_n 0, 1) := by decide +kernel
theorem dX2_has_6 : decode cX2_has 6 = .ok (.getfield 15, 3) := by decide +kernel
theorem dX2_has_9 : decode cX2_has 9 = .ok (.if_icmp .ge 19, 3) := by decide +kernel
theorem dX2_has_12 : decode cX2_has 12 = .ok (.iload_n 2, 1) := by decide +kernel
theorem dX2_has_13 : decode cX2_has 13 = .ok (.ifCond .lt 15, 3) := by decide +kernel
theorem dX2_has_16 : decode cX2_has 16 = .ok (.iload_n 2, 1) := by decide +kernel
theorem dX2_has_17 : decode cX2_has 17 = .ok (.aload_n 0, 1) := by decide +kernel
theorem dX2_has_18 : decode cX2_has 18 = .ok (.getfield 19, 3) := by decide +kernel
theorem dX2_has_21 : decode cX2_has 21 = .ok (.if_icmp .ge 7, 3) := by decide +kernel
theorem dX2_has_24 : decode cX2_has 24 = .ok (.iconst 1, 1) := by decide +kernel
theorem dX2_has_25 : decode cX2_has 25 = .ok (.goto 4, 3) := by decide +kernel
theorem dX2_has_28 : decode cX2_has 28 = .ok (.iconst 0, 1) := by decide +kernel
theorem dX2_has_29 : decode cX2_has 29 = .ok (.ireturn, 1) := by decide +kernel
theorem dX2_sortAt_0 : decode cX2_sortAt 0 = .ok (.aload_n 0, 1) := by decide +kernel
theorem dX2_sortAt_1 : decode cX2_sortAt 1 = .ok (.iload_n 1, 1) := by decide +kernel
theorem dX2_sortAt_2 : decode cX2_sortAt 2 = .ok (.iload_n 2, 1) := by decide +kernel
theorem dX2_sortAt_3 : decode cX2_sortAt 3 = .ok (.invokevirtual 25, 3) := by decide +kernel
theorem dX2_sortAt_6 : decode cX2_sortAt 6 = .ok (.ifCond .eq 17, 3) := by decide +kernel
theorem dX2_sortAt_9 : decode cX2_sortAt 9 = .ok (.aload_n 0, 1) := by decide +kernel
theorem dX2_sortAt_10 : decode cX2_sortAt 10 = .ok (.getfield 9, 3) := by decide +kernel
theorem dX2_sortAt_13 : decode cX2_sortAt 13 = .ok (.iload_n 2, 1) := by decide +kernel
theorem dX2_sortAt_14 : decode cX2_sortAt 14 = .ok (.bipush 12, 2) := by decide +kernel
theorem dX2_sortAt_16 : decode cX2_sortAt 16 = .ok (.imul, 1) := by decide +kernel
theorem dX2_sortAt_17 : decode cX2_sortAt 17 = .ok (.iload_n 1, 1) := by decide +kernel
theorem dX2_sortAt_18 : decode cX2_sortAt 18 = .ok (.iadd, 1) := by decide +kernel
theorem dX2_sortAt_19 : decode cX2_sortAt 19 = .ok (.iaload, 1) := by decide +kernel
theorem dX2_sortAt_20 : decode cX2_sortAt 20 = .ok (.goto 4, 3) := by decide +kernel
theorem dX2_sortAt_23 : decode cX2_sortAt 23 = .ok (.iconst (-1), 1) := by decide +kernel
theorem dX2_sortAt_24 : decode cX2_sortAt 24 = .ok (.ireturn, 1) := by decide +kernel
theorem dX2_isHollow_0 : decode cX2_isHollow 0 = .ok (.aload_n 0, 1) := by decide +kernel
theorem dX2_isHollow_1 : decode cX2_isHollow 1 = .ok (.iload_n 1, 1) := by decide +kernel
theorem dX2_isHollow_2 : decode cX2_isHollow 2 = .ok (.iload_n 2, 1) := by decide +kernel
theorem dX2_isHollow_3 : decode cX2_isHollow 3 = .ok (.invokevirtual 25, 3) := by decide +kernel
theorem dX2_isHollow_6 : decode cX2_isHollow 6 = .ok (.ifCond .ne 5, 3) := by decide +kernel
theorem dX2_isHollow_9 : decode cX2_isHollow 9 = .ok (.iconst 0, 1) := by decide +kernel
theorem dX2_isHollow_10 : decode cX2_isHollow 10 = .ok (.ireturn, 1) := by decide +kernel
theorem dX2_isHollow_11 : decode cX2_isHollow 11 = .ok (.aload_n 0, 1) := by decide +kernel
theorem dX2_isHollow_12 : decode cX2_isHollow 12 = .ok (.getfield 9, 3) := by decide +kernel
theorem dX2_isHollow_15 : decode cX2_isHollow 15 = .ok (.iload_n 2, 1) := by decide +kernel
theorem dX2_isHollow_16 : decode cX2_isHollow 16 = .ok (.bipush 12, 2) := by decide +kernel
theorem dX2_isHollow_18 : decode cX2_isHollow 18 = .ok (.imul, 1) := by decide +kernel
theorem dX2_isHollow_19 : decode cX2_isHollow 19 = .ok (.iload_n 1, 1) := by decide +kernel
theorem dX2_isHollow_20 : decode cX2_isHollow 20 = .ok (.iadd, 1) := by decide +kernel
theorem dX2_isHollow_21 : decode cX2_isHollow 21 = .ok (.iaload, 1) := by decide +kernel
theorem dX2_isHollow_22 : decode cX2_isHollow 22 = .ok (.istore_n 3, 1) := by decide +kernel
theorem dX2_isHollow_23 : decode cX2_isHollow 23 = .ok (.iload_n 3, 1) := by decide +kernel
theorem dX2_isHollow_24 : decode cX2_isHollow 24 = .ok (.ifCond .eq 13, 3) := by decide +kernel
theorem dX2_isHollow_27 : decode cX2_isHollow 27 = .ok (.iload_n 3, 1) := by decide +kernel
theorem dX2_isHollow_28 : decode cX2_isHollow 28 = .ok (.iconst 3, 1) := by decide +kernel
theorem dX2_isHollow_29 : decode cX2_isHollow 29 = .ok (.if_icmp .eq 8, 3) := by decide +kernel
theorem dX2_isHollow_32 : decode cX2_isHollow 32 = .ok (.iload_n 3, 1) := by decide +kernel
theorem dX2_isHollow_33 : decode cX2_isHollow 33 = .ok (.iconst 4, 1) := by decide +kernel
theorem dX2_isHollow_34 : decode cX2_isHollow 34 = .ok (.if_icmp .ne 7, 3) := by decide +kernel
theorem dX2_isHollow_37 : decode cX2_isHollow 37 = .ok (.iconst 1, 1) := by decide +kernel
theorem dX2_isHollow_38 : decode cX2_isHollow 38 = .ok (.goto 4, 3) := by decide +kernel
theorem dX2_isHollow_41 : decode cX2_isHollow 41 = .ok (.iconst 0, 1) := by decide +kernel
theorem dX2_isHollow_42 : decode cX2_isHollow 42 = .ok (.ireturn, 1) := by decide +kernel
theorem dX2_resize_0 : decode cX2_resize 0 = .ok (.aload_n 0, 1) := by decide +kernel
theorem dX2_resize_1 : decode cX2_resize 1 = .ok (.iload_n 1, 1) := by decide +kernel
theorem dX2_resize_2 : decode cX2_resize 2 = .ok (.putfield 15, 3) := by decide +kernel
theorem dX2_resize_5 : decode cX2_resize 5 = .ok (.aload_n 0, 1) := by decide +kernel
theorem dX2_resize_6 : decode cX2_resize 6 = .ok (.iload_n 2, 1) := by decide +kernel
theorem dX2_resize_7 : decode cX2_resize 7 = .ok (.putfield 19, 3) := by decide +kernel
theorem dX2_resize_10 : decode cX2_resize 10 = .ok (.aload_n 0, 1) := by decide +kernel
theorem dX2_resize_11 : decode cX2_resize 11 = .ok (.getfield 9, 3) := by decide +kernel
theorem dX2_resize_14 : decode cX2_resize 14 = .ok (.iconst 0, 1) := by decide +kernel
theorem dX2_resize_15 : decode cX2_resize 15 = .ok (.invokestatic 29, 3) := by decide +kernel
theorem dX2_resize_18 : decode cX2_resize 18 = .ok (.aload_n 0, 1) := by decide +kernel
theorem dX2_resize_19 : decode cX2_resize 19 = .ok (.dup, 1) := by decide +kernel
theorem dX2_resize_20 : decode cX2_resize 20 = .ok (.getfield 22, 3) := by decide +kernel
theorem dX2_resize_23 : decode cX2_resize 23 = .ok (.iconst 1, 1) := by decide +kernel
theorem dX2_resize_24 : decode cX2_resize 24 = .ok (.iadd, 1) := by decide +kernel
theorem dX2_resize_25 : decode cX2_resize 25 = .ok (.putfield 22, 3) := by decide +kernel
theorem dX2_resize_28 : decode cX2_resize 28 = .ok (.return_, 1) := by decide +kernel
theorem dX2_fill_0 : decode cX2_fill 0 = .ok (.aload_n 0, 1) := by decide +kernel
theorem dX2_fill_1 : decode cX2_fill 1 = .ok (.iload_n 1, 1) := by decide +kernel
theorem dX2_fill_2 : decode cX2_fill 2 = .ok (.iload_n 2, 1) := by decide +kernel
theorem dX2_fill_3 : decode cX2_fill 3 = .ok (.invokevirtual 25, 3) := by decide +kernel
theorem dX2_fill_6 : decode cX2_fill 6 = .ok (.ifCond .eq 13, 3) := by decide +kernel
theorem dX2_fill_9 : decode cX2_fill 9 = .ok (.aload_n 0, 1) := by decide +kernel
theorem dX2_fill_10 : decode cX2_fill 10 = .ok (.iload_n 3, 1) := by decide +kernel
theorem dX2_fill_11 : decode cX2_fill 11 = .ok (.iload 4, 2) := by decide +kernel
theorem dX2_fill_13 : decode cX2_fill 13 = .ok (.invokevirtual 25, 3) := by decide +kernel
theorem dX2_fill_16 : decode cX2_fill 16 = .ok (.ifCond .ne 5, 3) := by decide +kernel
theorem dX2_fill_19 : decode cX2_fill 19 = .ok (.iconst 0, 1) := by decide +kernel
theorem dX2_fill_20 : decode cX2_fill 20 = .ok (.ireturn, 1) := by decide +kernel
theorem dX2_fill_21 : decode cX2_fill 21 = .ok (.iconst 0, 1) := by decide +kernel
theorem dX2_fill_22 : decode cX2_fill 22 = .ok (.istore 6, 2) := by decide +kernel
theorem dX2_fill_24 : decode cX2_fill 24 = .ok (.iload_n 2, 1) := by decide +kernel
theorem dX2_fill_25 : decode cX2_fill 25 = .ok (.istore 7, 2) := by decide +kernel
theorem dX2_fill_27 : decode cX2_fill 27 = .ok (.iload 7, 2) := by decide +kernel
theorem dX2_fill_29 : decode cX2_fill 29 = .ok (.iload 4, 2) := by decide +kernel
theorem dX2_fill_31 : decode cX2_fill 31 = .ok (.if_icmp .gt 42, 3) := by decide +kernel
theorem dX2_fill_34 : decode cX2_fill 34 = .ok (.iload_n 1, 1) := by decide +kernel
theorem dX2_fill_35 : decode cX2_fill 35 = .ok (.istore 8, 2) := by decide +kernel
theorem dX2_fill_37 : decode cX2_fill 37 = .ok (.iload 8, 2) := by decide +kernel
theorem dX2_fill_39 : decode cX2_fill 39 = .ok (.iload_n 3, 1) := by decide +kernel
theorem dX2_fill_40 : decode cX2_fill 40 = .ok (.if_icmp .gt 27, 3) := by decide +kernel
theorem dX2_fill_43 : decode cX2_fill 43 = .ok (.aload_n 0, 1) := by decide +kernel
theorem dX2_fill_44 : decode cX2_fill 44 = .ok (.getfield 9, 3) := by decide +kernel
theorem dX2_fill_47 : decode cX2_fill 47 = .ok (.iload 7, 2) := by decide +kernel
theorem dX2_fill_49 : decode cX2_fill 49 = .ok (.bipush 12, 2) := by decide +kernel
theorem dX2_fill_51 : decode cX2_fill 51 = .ok (.imul, 1) := by decide +kernel
theorem dX2_fill_52 : decode cX2_fill 52 = .ok (.iload 8, 2) := by decide +kernel
theorem dX2_fill_54 : decode cX2_fill 54 = .ok (.iadd, 1) := by decide +kernel
theorem dX2_fill_55 : decode cX2_fill 55 = .ok (.iload 5, 2) := by decide +kernel
theorem dX2_fill_57 : decode cX2_fill 57 = .ok (.iastore, 1) := by decide +kernel
theorem dX2_fill_58 : decode cX2_fill 58 = .ok (.iinc 6 1, 3) := by decide +kernel
theorem dX2_fill_61 : decode cX2_fill 61 = .ok (.iinc 8 1, 3) := by decide +kernel
theorem dX2_fill_64 : decode cX2_fill 64 = .ok (.goto (-27), 3) := by decide +kernel
theorem dX2_fill_67 : decode cX2_fill 67 = .ok (.iinc 7 1, 3) := by decide +kernel
theorem dX2_fill_70 : decode cX2_fill 70 = .ok (.goto (-43), 3) := by decide +kernel
theorem dX2_fill_73 : decode cX2_fill 73 = .ok (.aload_n 0, 1) := by decide +kernel
theorem dX2_fill_74 : decode cX2_fill 74 = .ok (.dup, 1) := by decide +kernel
theorem dX2_fill_75 : decode cX2_fill 75 = .ok (.getfield 22, 3) := by decide +kernel
theorem dX2_fill_78 : decode cX2_fill 78 = .ok (.iconst 1, 1) := by decide +kernel
theorem dX2_fill_79 : decode cX2_fill 79 = .ok (.iadd, 1) := by decide +kernel
theorem dX2_fill_80 : decode cX2_fill 80 = .ok (.putfield 22, 3) := by decide +kernel
theorem dX2_fill_83 : decode cX2_fill 83 = .ok (.iload 6, 2) := by decide +kernel
theorem dX2_fill_85 : decode cX2_fill 85 = .ok (.ireturn, 1) := by decide +kernel
theorem dX2_howMany_0 : decode cX2_howMany 0 = .ok (.iconst 0, 1) := by decide +kernel
theorem dX2_howMany_1 : decode cX2_howMany 1 = .ok (.istore_n 3, 1) := by decide +kernel
theorem dX2_howMany_2 : decode cX2_howMany 2 = .ok (.iconst 0, 1) := by decide +kernel
theorem dX2_howMany_3 : decode cX2_howMany 3 = .ok (.istore 4, 2) := by decide +kernel
theorem dX2_howMany_5 : decode cX2_howMany 5 = .ok (.iload 4, 2) := by decide +kernel
theorem dX2_howMany_7 : decode cX2_howMany 7 = .ok (.aload_n 0, 1) := by decide +kernel
theorem dX2_howMany_8 : decode cX2_howMany 8 = .ok (.getfield 19, 3) := by decide +kernel
theorem dX2_howMany_11 : decode cX2_howMany 11 = .ok (.if_icmp .ge 52, 3) := by decide +kernel
theorem dX2_howMany_14 : decode cX2_howMany 14 = .ok (.iconst 0, 1) := by decide +kernel
theorem dX2_howMany_15 : decode cX2_howMany 15 = .ok (.istore 5, 2) := by decide +kernel
theorem dX2_howMany_17 : decode cX2_howMany 17 = .ok (.iload 5, 2) := by decide +kernel
theorem dX2_howMany_19 : decode cX2_howMany 19 = .ok (.aload_n 0, 1) := by decide +kernel
theorem dX2_howMany_20 : decode cX2_howMany 20 = .ok (.getfield 15, 3) := by decide +kernel
theorem dX2_howMany_23 : decode cX2_howMany 23 = .ok (.if_icmp .ge 34, 3) := by decide +kernel
theorem dX2_howMany_26 : decode cX2_howMany 26 = .ok (.aload_n 0, 1) := by decide +kernel
theorem dX2_howMany_27 : decode cX2_howMany 27 = .ok (.iload 5, 2) := by decide +kernel
theorem dX2_howMany_29 : decode cX2_howMany 29 = .ok (.iload 4, 2) := by decide +kernel
theorem dX2_howMany_31 : decode cX2_howMany 31 = .ok (.invokevirtual 35, 3) := by decide +kernel
theorem dX2_howMany_34 : decode cX2_howMany 34 = .ok (.istore 6, 2) := by decide +kernel
theorem dX2_howMany_36 : decode cX2_howMany 36 = .ok (.iload 6, 2) := by decide +kernel
theorem dX2_howMany_38 : decode cX2_howMany 38 = .ok (.iload_n 1, 1) := by decide +kernel
theorem dX2_howMany_39 : decode cX2_howMany 39 = .ok (.if_icmp .lt 12, 3) := by decide +kernel
theorem dX2_howMany_42 : decode cX2_howMany 42 = .ok (.iload 6, 2) := by decide +kernel
theorem dX2_howMany_44 : decode cX2_howMany 44 = .ok (.iload_n 2, 1) := by decide +kernel
theorem dX2_howMany_45 : decode cX2_howMany 45 = .ok (.if_icmp .gt 6, 3) := by decide +kernel
theorem dX2_howMany_48 : decode cX2_howMany 48 = .ok (.iinc 3 1, 3) := by decide +kernel
theorem dX2_howMany_51 : decode cX2_howMany 51 = .ok (.iinc 5 1, 3) := by decide +kernel
theorem dX2_howMany_54 : decode cX2_howMany 54 = .ok (.goto (-37), 3) := by decide +kernel
theorem dX2_howMany_57 : decode cX2_howMany 57 = .ok (.iinc 4 1, 3) := by decide +kernel
theorem dX2_howMany_60 : decode cX2_howMany 60 = .ok (.goto (-55), 3) := by decide +kernel
theorem dX2_howMany_63 : decode cX2_howMany 63 = .ok (.iload_n 3, 1) := by decide +kernel
theorem dX2_howMany_64 : decode cX2_howMany 64 = .ok (.ireturn, 1) := by decide +kernel
