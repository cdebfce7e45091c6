theorem dR_init_0 : decode kR_init 0 = .ok (.aload_n 0, 1) := by decide +kernel
theorem dR_init_1 : decode kR_init 1 = .ok (.invokespecial 3, 3) := by decide +kernel
theorem dR_init_4 : decode kR_init 4 = .ok (.aload_n 0, 1) := by decide +kernel
theorem dR_init_5 : decode kR_init 5 = .ok (.bipush 64, 2) := by decide +kernel
theorem dR_init_7 : decode kR_init 7 = .ok (.newarray .int, 2) := by decide +kernel
theorem dR_init_9 : decode kR_init 9 = .ok (.putfield 9, 3) := by decide +kernel
theorem dR_init_12 : decode kR_init 12 = .ok (.return_, 1) := by decide +kernel
theorem dR_shorten_0 : decode kR_shorten 0 = .ok (.iload_n 1, 1) := by decide +kernel
theorem dR_shorten_1 : decode kR_shorten 1 = .ok (.ifCond .lt 16, 3) := by decide +kernel
theorem dR_shorten_4 : decode kR_shorten 4 = .ok (.iload_n 1, 1) := by decide +kernel
theorem dR_shorten_5 : decode kR_shorten 5 = .ok (.aload_n 0, 1) := by decide +kernel
theorem dR_shorten_6 : decode kR_shorten 6 = .ok (.getfield 15, 3) := by decide +kernel
theorem dR_shorten_9 : decode kR_shorten 9 = .ok (.if_icmp .ge 8, 3) := by decide +kernel
theorem dR_shorten_12 : decode kR_shorten 12 = .ok (.aload_n 0, 1) := by decide +kernel
theorem dR_shorten_13 : decode kR_shorten 13 = .ok (.iload_n 1, 1) := by decide +kernel
theorem dR_shorten_14 : decode kR_shorten 14 = .ok (.putfield 15, 3) := by decide +kernel
theorem dR_shorten_17 : decode kR_shorten 17 = .ok (.return_, 1) := by decide +kernel
theorem dR_add_0 : decode kR_add 0 = .ok (.aload_n 0, 1) := by decide +kernel
theorem dR_add_1 : decode kR_add 1 = .ok (.getfield 15, 3) := by decide +kernel
theorem dR_add_4 : decode kR_add 4 = .ok (.sipush 4096, 3) := by decide +kernel
theorem dR_add_7 : decode kR_add 7 = .ok (.if_icmp .lt 4, 3) := by decide +kernel
theorem dR_add_10 : decode kR_add 10 = .ok (.return_, 1) := by decide +kernel
theorem dR_add_11 : decode kR_add 11 = .ok (.aload_n 0, 1) := by decide +kernel
theorem dR_add_12 : decode kR_add 12 = .ok (.getfield 15, 3) := by decide +kernel
theorem dR_add_15 : decode kR_add 15 = .ok (.aload_n 0, 1) := by decide +kernel
theorem dR_add_16 : decode kR_add 16 = .ok (.getfield 9, 3) := by decide +kernel
theorem dR_add_19 : decode kR_add 19 = .ok (.arraylength, 1) := by decide +kernel
theorem dR_add_20 : decode kR_add 20 = .ok (.if_icmp .lt 21, 3) := by decide +kernel
theorem dR_add_23 : decode kR_add 23 = .ok (.aload_n 0, 1) := by decide +kernel
theorem dR_add_24 : decode kR_add 24 = .ok (.aload_n 0, 1) := by decide +kernel
theorem dR_add_25 : decode kR_add 25 = .ok (.getfield 9, 3) := by decide +kernel
theorem dR_add_28 : decode kR_add 28 = .ok (.iconst 2, 1) := by decide +kernel
theorem dR_add_29 : decode kR_add 29 = .ok (.aload_n 0, 1) := by decide +kernel
theorem dR_add_30 : decode kR_add 30 = .ok (.getfield 9, 3) := by decide +kernel
theorem dR_add_33 : decode kR_add 33 = .ok (.arraylength, 1) := by decide +kernel
theorem dR_add_34 : decode kR_add 34 = .ok (.imul, 1) := by decide +kernel
theorem dR_add_35 : decode kR_add 35 = .ok (.invokestatic 19, 3) := by decide +kernel
theorem dR_add_38 : decode kR_add 38 = .ok (.putfield 9, 3) := by decide +kernel
theorem dR_add_41 : decode kR_add 41 = .ok (.aload_n 0, 1) := by decide +kernel
theorem dR_add_42 : decode kR_add 42 = .ok (.getfield 9, 3) := by decide +kernel
theorem dR_add_45 : decode kR_add 45 = .ok (.aload_n 0, 1) := by decide +kernel
theorem dR_add_46 : decode kR_add 46 = .ok (.getfield 15, 3) := by decide +kernel
theorem dR_add_49 : decode kR_add 49 = .ok (.iload_n 1, 1) := by decide +kernel
theorem dR_add_50 : decode kR_add 50 = .ok (.iastore, 1) := by decide +kernel
theorem dR_add_51 : decode kR_add 51 = .ok (.aload_n 0, 1) := by decide +kernel
theorem dR_add_52 : decode kR_add 52 = .ok (.dup, 1) := by decide +kernel
theorem dR_add_53 : decode kR_add 53 = .ok (.getfield 15, 3) := by decide +kernel
theorem dR_add_56 : decode kR_add 56 = .ok (.iconst 1, 1) := by decide +kernel
theorem dR_add_57 : decode kR_add 57 = .ok (.iadd, 1) := by decide +kernel
theorem dR_add_58 : decode kR_add 58 = .ok (.putfield 15, 3) := by decide +kernel
theorem dR_add_61 : decode kR_add 61 = .ok (.return_, 1) := by decide +kernel
theorem dR_count_0 : decode kR_count 0 = .ok (.aload_n 0, 1) := by decide +kernel
theorem dR_count_1 : decode kR_count 1 = .ok (.getfield 15, 3) := by decide +kernel
theorem dR_count_4 : decode kR_count 4 = .ok (.ireturn, 1) := by decide +kernel
theorem dR_at_0 : decode kR_at 0 = .ok (.iload_n 1, 1) := by decide +kernel
theorem dR_at_1 : decode kR_at 1 = .ok (.ifCond .lt 20, 3) := by decide +kernel
theorem dR_at_4 : decode kR_at 4 = .ok (.iload_n 1, 1) := by decide +kernel
theorem dR_at_5 : decode kR_at 5 = .ok (.aload_n 0, 1) := by decide +kernel
theorem dR_at_6 : decode kR_at 6 = .ok (.getfield 15, 3) := by decide +kernel
theorem dR_at_9 : decode kR_at 9 = .ok (.if_icmp .ge 12, 3) := by decide +kernel
theorem dR_at_12 : decode kR_at 12 = .ok (.aload_n 0, 1) := by decide +kernel
theorem dR_at_13 : decode kR_at 13 = .ok (.getfield 9, 3) := by decide +kernel
theorem dR_at_16 : decode kR_at 16 = .ok (.iload_n 1, 1) := by decide +kernel
theorem dR_at_17 : decode kR_at 17 = .ok (.iaload, 1) := by decide +kernel
theorem dR_at_18 : decode kR_at 18 = .ok (.goto 4, 3) := by decide +kernel
theorem dR_at_21 : decode kR_at 21 = .ok (.iconst (-1), 1) := by decide +kernel
theorem dR_at_22 : decode kR_at 22 = .ok (.ireturn, 1) := by decide +kernel
theorem dR_set_0 : decode kR_set 0 = .ok (.iload_n 1, 1) := by decide +kernel
theorem dR_set_1 : decode kR_set 1 = .ok (.ifCond .lt 18, 3) := by decide +kernel
theorem dR_set_4 : decode kR_set 4 = .ok (.iload_n 1, 1) := by decide +kernel
theorem dR_set_5 : decode kR_set 5 = .ok (.aload_n 0, 1) := by decide +kernel
theorem dR_set_6 : decode kR_set 6 = .ok (.getfield 15, 3) := by decide +kernel
theorem dR_set_9 : decode kR_set 9 = .ok (.if_icmp .ge 10, 3) := by decide +kernel
theorem dR_set_12 : decode kR_set 12 = .ok (.aload_n 0, 1) := by decide +kernel
theorem dR_set_13 : decode kR_set 13 = .ok (.getfield 9, 3) := by decide +kernel
theorem dR_set_16 : decode kR_set 16 = .ok (.iload_n 1, 1) := by decide +kernel
theorem dR_set_17 : decode kR_set 17 = .ok (.iload_n 2, 1) := by decide +kernel
theorem dR_set_18 : decode kR_set 18 = .ok (.iastore, 1) := by decide +kernel
theorem dR_set_19 : decode kR_set 19 = .ok (.return_, 1) := by decide +kernel
theorem dP_init_0 : decode kP_init 0 = .ok (.aload_n 0, 1) := by decide +kernel
theorem dP_init_1 : decode kP_init 1 = .ok (.invokespecial 1, 3) := by decide +kernel
theorem dP_init_4 : decode kP_init 4 = .ok (.aload_n 0, 1) := by decide +kernel
theorem dP_init_5 : decode kP_init 5 = .ok (.new 7, 3) := by decide +kernel
theorem dP_init_8 : decode kP_init 8 = .ok (.dup, 1) := by decide +kernel
theorem dP_init_9 : decode kP_init 9 = .ok (.invokespecial 9, 3) := by decide +kernel
theorem dP_init_12 : decode kP_init 12 = .ok (.putfield 10, 3) := by decide +kernel
theorem dP_init_15 : decode kP_init 15 = .ok (.aload_n 0, 1) := by decide +kernel
theorem dP_init_16 : decode kP_init 16 = .ok (.new 7, 3) := by decide +kernel
theorem dP_init_19 : decode kP_init 19 = .ok (.dup, 1) := by decide +kernel
theorem dP_init_20 : decode kP_init 20 = .ok (.invokespecial 9, 3) := by decide +kernel
theorem dP_init_23 : decode kP_init 23 = .ok (.putfield 16, 3) := by decide +kernel
theorem dP_init_26 : decode kP_init 26 = .ok (.aload_n 0, 1) := by decide +kernel
theorem dP_init_27 : decode kP_init 27 = .ok (.new 7, 3) := by decide +kernel
theorem dP_init_30 : decode kP_init 30 = .ok (.dup, 1) := by decide +kernel
theorem dP_init_31 : decode kP_init 31 = .ok (.invokespecial 9, 3) := by decide +kernel
theorem dP_init_34 : decode kP_init 34 = .ok (.putfield 19, 3) := by decide +kernel
theorem dP_init_37 : decode kP_init 37 = .ok (.return_, 1) := by decide +kernel
theorem dP_shorten_0 : decode kP_shorten 0 = .ok (.aload_n 0, 1) := by decide +kernel
theorem dP_shorten_1 : decode kP_shorten 1 = .ok (.getfield 10, 3) := by decide +kernel
theorem dP_shorten_4 : decode kP_shorten 4 = .ok (.iload_n 1, 1) := by decide +kernel
theorem dP_shorten_5 : decode kP_shorten 5 = .ok (.invokevirtual 38, 3) := by decide +kernel
theorem dP_shorten_8 : decode kP_shorten 8 = .ok (.aload_n 0, 1) := by decide +kernel
theorem dP_shorten_9 : decode kP_shorten 9 = .ok (.getfield 16, 3) := by decide +kernel
theorem dP_shorten_12 : decode kP_shorten 12 = .ok (.iload_n 1, 1) := by decide +kernel
theorem dP_shorten_13 : decode kP_shorten 13 = .ok (.invokevirtual 38, 3) := by decide +kernel
theorem dP_shorten_16 : decode kP_shorten 16 = .ok (.aload_n 0, 1) := by decide +kernel
theorem dP_shorten_17 : decode kP_shorten 17 = .ok (.getfield 19, 3) := by decide +kernel
theorem dP_shorten_20 : decode kP_shorten 20 = .ok (.iload_n 1, 1) := by decide +kernel
theorem dP_shorten_21 : decode kP_shorten 21 = .ok (.invokevirtual 38, 3) := by decide +kernel
theorem dP_shorten_24 : decode kP_shorten 24 = .ok (.return_, 1) := by decide +kernel
theorem dP_add_0 : decode kP_add 0 = .ok (.aload_n 0, 1) := by decide +kernel
theorem dP_add_1 : decode kP_add 1 = .ok (.getfield 10, 3) := by decide +kernel
theorem dP_add_4 : decode kP_add 4 = .ok (.iload_n 1, 1) := by decide +kernel
theorem dP_add_5 : decode kP_add 5 = .ok (.invokevirtual 30, 3) := by decide +kernel
theorem dP_add_8 : decode kP_add 8 = .ok (.aload_n 0, 1) := by decide +kernel
theorem dP_add_9 : decode kP_add 9 = .ok (.getfield 16, 3) := by decide +kernel
theorem dP_add_12 : decode kP_add 12 = .ok (.iload_n 2, 1) := by decide +kernel
theorem dP_add_13 : decode kP_add 13 = .ok (.invokevirtual 30, 3) := by decide +kernel
theorem dP_add_16 : decode kP_add 16 = .ok (.aload_n 0, 1) := by decide +kernel
theorem dP_add_17 : decode kP_add 17 = .ok (.getfield 19, 3) := by decide +kernel
theorem dP_add_20 : decode kP_add 20 = .ok (.iload_n 3, 1) := by decide +kernel
theorem dP_add_21 : decode kP_add 21 = .ok (.invokevirtual 30, 3) := by decide +kernel
theorem dP_add_24 : decode kP_add 24 = .ok (.return_, 1) := by decide +kernel
theorem dP_count_0 : decode kP_count 0 = .ok (.aload_n 0, 1) := by decide +kernel
theorem dP_count_1 : decode kP_count 1 = .ok (.getfield 10, 3) := by decide +kernel
theorem dP_count_4 : decode kP_count 4 = .ok (.invokevirtual 22, 3) := by decide +kernel
theorem dP_count_7 : decode kP_count 7 = .ok (.ireturn, 1) := by decide +kernel
theorem dP_wallAt_0 : decode kP_wallAt 0 = .ok (.aload_n 0, 1) := by decide +kernel
theorem dP_wallAt_1 : decode kP_wallAt 1 = .ok (.getfield 10, 3) := by decide +kernel
theorem dP_wallAt_4 : decode kP_wallAt 4 = .ok (.iload_n 1, 1) := by decide +kernel
theorem dP_wallAt_5 : decode kP_wallAt 5 = .ok (.invokevirtual 26, 3) := by decide +kernel
theorem dP_wallAt_8 : decode kP_wallAt 8 = .ok (.ireturn, 1) := by decide +kernel
theorem dP_firstAt_0 : decode kP_firstAt 0 = .ok (.aload_n 0, 1) := by decide +kernel
theorem dP_firstAt_1 : decode kP_firstAt 1 = .ok (.getfield 16, 3) := by decide +kernel
theorem dP_firstAt_4 : decode kP_firstAt 4 = .ok (.iload_n 1, 1) := by decide +kernel
theorem dP_firstAt_5 : decode kP_firstAt 5 = .ok (.invokevirtual 26, 3) := by decide +kernel
theorem dP_firstAt_8 : decode kP_firstAt 8 = .ok (.ireturn, 1) := by decide +kernel
theorem dP_lastAt_0 : decode kP_lastAt 0 = .ok (.aload_n 0, 1) := by decide +kernel
theorem dP_lastAt_1 : decode kP_lastAt 1 = .ok (.getfield 19, 3) := by decide +kernel
theorem dP_lastAt_4 : decode kP_lastAt 4 = .ok (.iload_n 1, 1) := by decide +kernel
theorem dP_lastAt_5 : decode kP_lastAt 5 = .ok (.invokevirtual 26, 3) := by decide +kernel
theorem dP_lastAt_8 : decode kP_lastAt 8 = .ok (.ireturn, 1) := by decide +kernel
theorem dP_set_0 : decode kP_set 0 = .ok (.aload_n 0, 1) := by decide +kernel
theorem dP_set_1 : decode kP_set 1 = .ok (.getfield 10, 3) := by decide +kernel
theorem dP_set_4 : decode kP_set 4 = .ok (.iload_n 1, 1) := by decide +kernel
theorem dP_set_5 : decode kP_set 5 = .ok (.iload_n 2, 1) := by decide +kernel
theorem dP_set_6 : decode kP_set 6 = .ok (.invokevirtual 34, 3) := by decide +kernel
theorem dP_set_9 : decode kP_set 9 = .ok (.aload_n 0, 1) := by decide +kernel
theorem dP_set_10 : decode kP_set 10 = .ok (.getfield 16, 3) := by decide +kernel
theorem dP_set_13 : decode kP_set 13 = .ok (.iload_n 1, 1) := by decide +kernel
theorem dP_set_14 : decode kP_set 14 = .ok (.iload_n 3, 1) := by decide +kernel
theorem dP_set_15 : decode kP_set 15 = .ok (.invokevirtual 34, 3) := by decide +kernel
theorem dP_set_18 : decode kP_set 18 = .ok (.aload_n 0, 1) := by decide +kernel
theorem dP_set_19 : decode kP_set 19 = .ok (.getfield 19, 3) := by decide +kernel
theorem dP_set_22 : decode kP_set 22 = .ok (.iload_n 1, 1) := by decide +kernel
theorem dP_set_23 : decode kP_set 23 = .ok (.iload 4, 2) := by decide +kernel
theorem dP_set_25 : decode kP_set 25 = .ok (.invokevirtual 34, 3) := by decide +kernel
theorem dP_set_28 : decode kP_set 28 = .ok (.return_, 1) := by decide +kernel
theorem dW_init_0 : decode kW_init 0 = .ok (.aload_n 0, 1) := by decide +kernel
theorem dW_init_1 : decode kW_init 1 = .ok (.invokespecial 1, 3) := by decide +kernel
theorem dW_init_4 : decode kW_init 4 = .ok (.aload_n 0, 1) := by decide +kernel
theorem dW_init_5 : decode kW_init 5 = .ok (.iload_n 1, 1) := by decide +kernel
theorem dW_init_6 : decode kW_init 6 = .ok (.putfield 7, 3) := by decide +kernel
theorem dW_init_9 : decode kW_init 9 = .ok (.aload_n 0, 1) := by decide +kernel
theorem dW_init_10 : decode kW_init 10 = .ok (.iload_n 2, 1) := by decide +kernel
theorem dW_init_11 : decode kW_init 11 = .ok (.putfield 13, 3) := by decide +kernel
theorem dW_init_14 : decode kW_init 14 = .ok (.aload_n 0, 1) := by decide +kernel
theorem dW_init_15 : decode kW_init 15 = .ok (.iload_n 3, 1) := by decide +kernel
theorem dW_init_16 : decode kW_init 16 = .ok (.putfield 16, 3) := by decide +kernel
theorem dW_init_19 : decode kW_init 19 = .ok (.aload_n 0, 1) := by decide +kernel
theorem dW_init_20 : decode kW_init 20 = .ok (.iload 4, 2) := by decide +kernel
theorem dW_init_22 : decode kW_init 22 = .ok (.putfield 19, 3) := by decide +kernel
theorem dW_init_25 : decode kW_init 25 = .ok (.return_, 1) := by decide +kernel
theorem dW_clashes_0 : decode kW_clashes 0 = .ok (.aload_n 0, 1) := by decide +kernel
theorem dW_clashes_1 : decode kW_clashes 1 = .ok (.aload_n 1, 1) := by decide +kernel
theorem dW_clashes_2 : decode kW_clashes 2 = .ok (.getfield 7, 3) := by decide +kernel
theorem dW_clashes_5 : decode kW_clashes 5 = .ok (.aload_n 1, 1) := by decide +kernel
theorem dW_clashes_6 : decode kW_clashes 6 = .ok (.getfield 13, 3) := by decide +kernel
theorem dW_clashes_9 : decode kW_clashes 9 = .ok (.invokevirtual 26, 3) := by decide +kernel
theorem dW_clashes_12 : decode kW_clashes 12 = .ok (.ifCond .eq 20, 3) := by decide +kernel
theorem dW_clashes_15 : decode kW_clashes 15 = .ok (.aload_n 0, 1) := by decide +kernel
theorem dW_clashes_16 : decode kW_clashes 16 = .ok (.aload_n 1, 1) := by decide +kernel
theorem dW_clashes_17 : decode kW_clashes 17 = .ok (.getfield 16, 3) := by decide +kernel
theorem dW_clashes_20 : decode kW_clashes 20 = .ok (.aload_n 1, 1) := by decide +kernel
theorem dW_clashes_21 : decode kW_clashes 21 = .ok (.getfield 19, 3) := by decide +kernel
theorem dW_clashes_24 : decode kW_clashes 24 = .ok (.invokevirtual 26, 3) := by decide +kernel
theorem dW_clashes_27 : decode kW_clashes 27 = .ok (.ifCond .eq 5, 3) := by decide +kernel
theorem dW_clashes_30 : decode kW_clashes 30 = .ok (.iconst 1, 1) := by decide +kernel
theorem dW_clashes_31 : decode kW_clashes 31 = .ok (.ireturn, 1) := by decide +kernel
theorem dW_clashes_32 : decode kW_clashes 32 = .ok (.aload_n 0, 1) := by decide +kernel
theorem dW_clashes_33 : decode kW_clashes 33 = .ok (.aload_n 1, 1) := by decide +kernel
theorem dW_clashes_34 : decode kW_clashes 34 = .ok (.invokevirtual 39, 3) := by decide +kernel
theorem dW_clashes_37 : decode kW_clashes 37 = .ok (.ifCond .eq 11, 3) := by decide +kernel
theorem dW_clashes_40 : decode kW_clashes 40 = .ok (.aload_n 1, 1) := by decide +kernel
theorem dW_clashes_41 : decode kW_clashes 41 = .ok (.aload_n 0, 1) := by decide +kernel
theorem dW_clashes_42 : decode kW_clashes 42 = .ok (.invokevirtual 39, 3) := by decide +kernel
theorem dW_clashes_45 : decode kW_clashes 45 = .ok (.ifCond .ne 63, 3) := by decide +kernel
theorem dW_clashes_48 : decode kW_clashes 48 = .ok (.aload_n 0, 1) := by decide +kernel
theorem dW_clashes_49 : decode kW_clashes 49 = .ok (.aload_n 1, 1) := by decide +kernel
theorem dW_clashes_50 : decode kW_clashes 50 = .ok (.getfield 7, 3) := by decide +kernel
theorem dW_clashes_53 : decode kW_clashes 53 = .ok (.aload_n 1, 1) := by decide +kernel
theorem dW_clashes_54 : decode kW_clashes 54 = .ok (.getfield 13, 3) := by decide +kernel
theorem dW_clashes_57 : decode kW_clashes 57 = .ok (.invokevirtual 43, 3) := by decide +kernel
theorem dW_clashes_60 : decode kW_clashes 60 = .ok (.ifCond .ne 48, 3) := by decide +kernel
theorem dW_clashes_63 : decode kW_clashes 63 = .ok (.aload_n 0, 1) := by decide +kernel
theorem dW_clashes_64 : decode kW_clashes 64 = .ok (.aload_n 1, 1) := by decide +kernel
theorem dW_clashes_65 : decode kW_clashes 65 = .ok (.getfield 16, 3) := by decide +kernel
theorem dW_clashes_68 : decode kW_clashes 68 = .ok (.aload_n 1, 1) := by decide +kernel
theorem dW_clashes_69 : decode kW_clashes 69 = .ok (.getfield 19, 3) := by decide +kernel
theorem dW_clashes_72 : decode kW_clashes 72 = .ok (.invokevirtual 43, 3) := by decide +kernel
theorem dW_clashes_75 : decode kW_clashes 75 = .ok (.ifCond .ne 33, 3) := by decide +kernel
theorem dW_clashes_78 : decode kW_clashes 78 = .ok (.aload_n 1, 1) := by decide +kernel
theorem dW_clashes_79 : decode kW_clashes 79 = .ok (.aload_n 0, 1) := by decide +kernel
theorem dW_clashes_80 : decode kW_clashes 80 = .ok (.getfield 7, 3) := by decide +kernel
theorem dW_clashes_83 : decode kW_clashes 83 = .ok (.aload_n 0, 1) := by decide +kernel
theorem dW_clashes_84 : decode kW_clashes 84 = .ok (.getfield 13, 3) := by decide +kernel
theorem dW_clashes_87 : decode kW_clashes 87 = .ok (.invokevirtual 43, 3) := by decide +kernel
theorem dW_clashes_90 : decode kW_clashes 90 = .ok (.ifCond .ne 18, 3) := by decide +kernel
theorem dW_clashes_93 : decode kW_clashes 93 = .ok (.aload_n 1, 1) := by decide +kernel
theorem dW_clashes_94 : decode kW_clashes 94 = .ok (.aload_n 0, 1) := by decide +kernel
theorem dW_clashes_95 : decode kW_clashes 95 = .ok (.getfield 16, 3) := by decide +kernel
theorem dW_clashes_98 : decode kW_clashes 98 = .ok (.aload_n 0, 1) := by decide +kernel
theorem dW_clashes_99 : decode kW_clashes 99 = .ok (.getfield 19, 3) := by decide +kernel
theorem dW_clashes_102 : decode kW_clashes 102 = .ok (.invokevirtual 43, 3) := by decide +kernel
theorem dW_clashes_105 : decode kW_clashes 105 = .ok (.ifCond .eq 7, 3) := by decide +kernel
theorem dW_clashes_108 : decode kW_clashes 108 = .ok (.iconst 1, 1) := by decide +kernel
theorem dW_clashes_109 : decode kW_clashes 109 = .ok (.goto 4, 3) := by decide +kernel
theorem dW_clashes_112 : decode kW_clashes 112 = .ok (.iconst 0, 1) := by decide +kernel
theorem dW_clashes_113 : decode kW_clashes 113 = .ok (.ireturn, 1) := by decide +kernel
theorem dW_hasEnd_0 : decode kW_hasEnd 0 = .ok (.iload_n 1, 1) := by decide +kernel
theorem dW_hasEnd_1 : decode kW_hasEnd 1 = .ok (.aload_n 0, 1) := by decide +kernel
theorem dW_hasEnd_2 : decode kW_hasEnd 2 = .ok (.getfield 7, 3) := by decide +kernel
theorem dW_hasEnd_5 : decode kW_hasEnd 5 = .ok (.if_icmp .ne 11, 3) := by decide +kernel
theorem dW_hasEnd_8 : decode kW_hasEnd 8 = .ok (.iload_n 2, 1) := by decide +kernel
theorem dW_hasEnd_9 : decode kW_hasEnd 9 = .ok (.aload_n 0, 1) := by decide +kernel
theorem dW_hasEnd_10 : decode kW_hasEnd 10 = .ok (.getfield 13, 3) := by decide +kernel
theorem dW_hasEnd_13 : decode kW_hasEnd 13 = .ok (.if_icmp .eq 19, 3) := by decide +kernel
theorem dW_hasEnd_16 : decode kW_hasEnd 16 = .ok (.iload_n 1, 1) := by decide +kernel
theorem dW_hasEnd_17 : decode kW_hasEnd 17 = .ok (.aload_n 0, 1) := by decide +kernel
theorem dW_hasEnd_18 : decode kW_hasEnd 18 = .ok (.getfield 16, 3) := by decide +kernel
theorem dW_hasEnd_21 : decode kW_hasEnd 21 = .ok (.if_icmp .ne 15, 3) := by decide +kernel
theorem dW_hasEnd_24 : decode kW_hasEnd 24 = .ok (.iload_n 2, 1) := by decide +kernel
theorem dW_hasEnd_25 : decode kW_hasEnd 25 = .ok (.aload_n 0, 1) := by decide +kernel
theorem dW_hasEnd_26 : decode kW_hasEnd 26 = .ok (.getfield 19, 3) := by decide +kernel
theorem dW_hasEnd_29 : decode kW_hasEnd 29 = .ok (.if_icmp .ne 7, 3) := by decide +kernel
theorem dW_hasEnd_32 : decode kW_hasEnd 32 = .ok (.iconst 1, 1) := by decide +kernel
theorem dW_hasEnd_33 : decode kW_hasEnd 33 = .ok (.goto 4, 3) := by decide +kernel
theorem dW_hasEnd_36 : decode kW_hasEnd 36 = .ok (.iconst 0, 1) := by decide +kernel
theorem dW_hasEnd_37 : decode kW_hasEnd 37 = .ok (.ireturn, 1) := by decide +kernel
theorem dW_parts_0 : decode kW_parts 0 = .ok (.aload_n 0, 1) := by decide +kernel
theorem dW_parts_1 : decode kW_parts 1 = .ok (.aload_n 1, 1) := by decide +kernel
theorem dW_parts_2 : decode kW_parts 2 = .ok (.getfield 7, 3) := by decide +kernel
theorem dW_parts_5 : decode kW_parts 5 = .ok (.aload_n 1, 1) := by decide +kernel
theorem dW_parts_6 : decode kW_parts 6 = .ok (.getfield 13, 3) := by decide +kernel
theorem dW_parts_9 : decode kW_parts 9 = .ok (.invokevirtual 22, 3) := by decide +kernel
theorem dW_parts_12 : decode kW_parts 12 = .ok (.lstore_n 2, 1) := by decide +kernel
theorem dW_parts_13 : decode kW_parts 13 = .ok (.aload_n 0, 1) := by decide +kernel
theorem dW_parts_14 : decode kW_parts 14 = .ok (.aload_n 1, 1) := by decide +kernel
theorem dW_parts_15 : decode kW_parts 15 = .ok (.getfield 16, 3) := by decide +kernel
theorem dW_parts_18 : decode kW_parts 18 = .ok (.aload_n 1, 1) := by decide +kernel
theorem dW_parts_19 : decode kW_parts 19 = .ok (.getfield 19, 3) := by decide +kernel
theorem dW_parts_22 : decode kW_parts 22 = .ok (.invokevirtual 22, 3) := by decide +kernel
theorem dW_parts_25 : decode kW_parts 25 = .ok (.lstore 4, 2) := by decide +kernel
theorem dW_parts_27 : decode kW_parts 27 = .ok (.lload_n 2, 1) := by decide +kernel
theorem dW_parts_28 : decode kW_parts 28 = .ok (.lconst 0, 1) := by decide +kernel
theorem dW_parts_29 : decode kW_parts 29 = .ok (.lcmp, 1) := by decide +kernel
theorem dW_parts_30 : decode kW_parts 30 = .ok (.ifCond .le 10, 3) := by decide +kernel
theorem dW_parts_33 : decode kW_parts 33 = .ok (.lload 4, 2) := by decide +kernel
theorem dW_parts_35 : decode kW_parts 35 = .ok (.lconst 0, 1) := by decide +kernel
theorem dW_parts_36 : decode kW_parts 36 = .ok (.lcmp, 1) := by decide +kernel
theorem dW_parts_37 : decode kW_parts 37 = .ok (.ifCond .lt 16, 3) := by decide +kernel
theorem dW_parts_40 : decode kW_parts 40 = .ok (.lload_n 2, 1) := by decide +kernel
theorem dW_parts_41 : decode kW_parts 41 = .ok (.lconst 0, 1) := by decide +kernel
theorem dW_parts_42 : decode kW_parts 42 = .ok (.lcmp, 1) := by decide +kernel
theorem dW_parts_43 : decode kW_parts 43 = .ok (.ifCond .ge 14, 3) := by decide +kernel
theorem dW_parts_46 : decode kW_parts 46 = .ok (.lload 4, 2) := by decide +kernel
theorem dW_parts_48 : decode kW_parts 48 = .ok (.lconst 0, 1) := by decide +kernel
theorem dW_parts_49 : decode kW_parts 49 = .ok (.lcmp, 1) := by decide +kernel
theorem dW_parts_50 : decode kW_parts 50 = .ok (.ifCond .le 7, 3) := by decide +kernel
theorem dW_parts_53 : decode kW_parts 53 = .ok (.iconst 1, 1) := by decide +kernel
theorem dW_parts_54 : decode kW_parts 54 = .ok (.goto 4, 3) := by decide +kernel
theorem dW_parts_57 : decode kW_parts 57 = .ok (.iconst 0, 1) := by decide +kernel
theorem dW_parts_58 : decode kW_parts 58 = .ok (.ireturn, 1) := by decide +kernel
theorem dW_side_0 : decode kW_side 0 = .ok (.aload_n 0, 1) := by decide +kernel
theorem dW_side_1 : decode kW_side 1 = .ok (.getfield 16, 3) := by decide +kernel
theorem dW_side_4 : decode kW_side 4 = .ok (.aload_n 0, 1) := by decide +kernel
theorem dW_side_5 : decode kW_side 5 = .ok (.getfield 7, 3) := by decide +kernel
theorem dW_side_8 : decode kW_side 8 = .ok (.isub, 1) := by decide +kernel
theorem dW_side_9 : decode kW_side 9 = .ok (.i2l, 1) := by decide +kernel
theorem dW_side_10 : decode kW_side 10 = .ok (.iload_n 2, 1) := by decide +kernel
theorem dW_side_11 : decode kW_side 11 = .ok (.aload_n 0, 1) := by decide +kernel
theorem dW_side_12 : decode kW_side 12 = .ok (.getfield 13, 3) := by decide +kernel
theorem dW_side_15 : decode kW_side 15 = .ok (.isub, 1) := by decide +kernel
theorem dW_side_16 : decode kW_side 16 = .ok (.i2l, 1) := by decide +kernel
theorem dW_side_17 : decode kW_side 17 = .ok (.lmul, 1) := by decide +kernel
theorem dW_side_18 : decode kW_side 18 = .ok (.aload_n 0, 1) := by decide +kernel
theorem dW_side_19 : decode kW_side 19 = .ok (.getfield 19, 3) := by decide +kernel
theorem dW_side_22 : decode kW_side 22 = .ok (.aload_n 0, 1) := by decide +kernel
theorem dW_side_23 : decode kW_side 23 = .ok (.getfield 13, 3) := by decide +kernel
theorem dW_side_26 : decode kW_side 26 = .ok (.isub, 1) := by decide +kernel
theorem dW_side_27 : decode kW_side 27 = .ok (.i2l, 1) := by decide +kernel
theorem dW_side_28 : decode kW_side 28 = .ok (.iload_n 1, 1) := by decide +kernel
theorem dW_side_29 : decode kW_side 29 = .ok (.aload_n 0, 1) := by decide +kernel
theorem dW_side_30 : decode kW_side 30 = .ok (.getfield 7, 3) := by decide +kernel
theorem dW_side_33 : decode kW_side 33 = .ok (.isub, 1) := by decide +kernel
theorem dW_side_34 : decode kW_side 34 = .ok (.i2l, 1) := by decide +kernel
theorem dW_side_35 : decode kW_side 35 = .ok (.lmul, 1) := by decide +kernel
theorem dW_side_36 : decode kW_side 36 = .ok (.lsub, 1) := by decide +kernel
theorem dW_side_37 : decode kW_side 37 = .ok (.lreturn, 1) := by decide +kernel
theorem dW_hasWithin_0 : decode kW_hasWithin 0 = .ok (.aload_n 0, 1) := by decide +kernel
theorem dW_hasWithin_1 : decode kW_hasWithin 1 = .ok (.iload_n 1, 1) := by decide +kernel
theorem dW_hasWithin_2 : decode kW_hasWithin 2 = .ok (.iload_n 2, 1) := by decide +kernel
theorem dW_hasWithin_3 : decode kW_hasWithin 3 = .ok (.invokevirtual 22, 3) := by decide +kernel
theorem dW_hasWithin_6 : decode kW_hasWithin 6 = .ok (.lconst 0, 1) := by decide +kernel
theorem dW_hasWithin_7 : decode kW_hasWithin 7 = .ok (.lcmp, 1) := by decide +kernel
theorem dW_hasWithin_8 : decode kW_hasWithin 8 = .ok (.ifCond .ne 76, 3) := by decide +kernel
theorem dW_hasWithin_11 : decode kW_hasWithin 11 = .ok (.aload_n 0, 1) := by decide +kernel
theorem dW_hasWithin_12 : decode kW_hasWithin 12 = .ok (.iload_n 1, 1) := by decide +kernel
theorem dW_hasWithin_13 : decode kW_hasWithin 13 = .ok (.iload_n 2, 1) := by decide +kernel
theorem dW_hasWithin_14 : decode kW_hasWithin 14 = .ok (.invokevirtual 26, 3) := by decide +kernel
theorem dW_hasWithin_17 : decode kW_hasWithin 17 = .ok (.ifCond .ne 67, 3) := by decide +kernel
theorem dW_hasWithin_20 : decode kW_hasWithin 20 = .ok (.iload_n 1, 1) := by decide +kernel
theorem dW_hasWithin_21 : decode kW_hasWithin 21 = .ok (.aload_n 0, 1) := by decide +kernel
theorem dW_hasWithin_22 : decode kW_hasWithin 22 = .ok (.getfield 7, 3) := by decide +kernel
theorem dW_hasWithin_25 : decode kW_hasWithin 25 = .ok (.aload_n 0, 1) := by decide +kernel
theorem dW_hasWithin_26 : decode kW_hasWithin 26 = .ok (.getfield 16, 3) := by decide +kernel
theorem dW_hasWithin_29 : decode kW_hasWithin 29 = .ok (.invokestatic 30, 3) := by decide +kernel
theorem dW_hasWithin_32 : decode kW_hasWithin 32 = .ok (.if_icmp .lt 52, 3) := by decide +kernel
theorem dW_hasWithin_35 : decode kW_hasWithin 35 = .ok (.iload_n 1, 1) := by decide +kernel
theorem dW_hasWithin_36 : decode kW_hasWithin 36 = .ok (.aload_n 0, 1) := by decide +kernel
theorem dW_hasWithin_37 : decode kW_hasWithin 37 = .ok (.getfield 7, 3) := by decide +kernel
theorem dW_hasWithin_40 : decode kW_hasWithin 40 = .ok (.aload_n 0, 1) := by decide +kernel
theorem dW_hasWithin_41 : decode kW_hasWithin 41 = .ok (.getfield 16, 3) := by decide +kernel
theorem dW_hasWithin_44 : decode kW_hasWithin 44 = .ok (.invokestatic 36, 3) := by decide +kernel
theorem dW_hasWithin_47 : decode kW_hasWithin 47 = .ok (.if_icmp .gt 37, 3) := by decide +kernel
theorem dW_hasWithin_50 : decode kW_hasWithin 50 = .ok (.iload_n 2, 1) := by decide +kernel
theorem dW_hasWithin_51 : decode kW_hasWithin 51 = .ok (.aload_n 0, 1) := by decide +kernel
theorem dW_hasWithin_52 : decode kW_hasWithin 52 = .ok (.getfield 13, 3) := by decide +kernel
theorem dW_hasWithin_55 : decode kW_hasWithin 55 = .ok (.aload_n 0, 1) := by decide +kernel
theorem dW_hasWithin_56 : decode kW_hasWithin 56 = .ok (.getfield 19, 3) := by decide +kernel
theorem dW_hasWithin_59 : decode kW_hasWithin 59 = .ok (.invokestatic 30, 3) := by decide +kernel
theorem dW_hasWithin_62 : decode kW_hasWithin 62 = .ok (.if_icmp .lt 22, 3) := by decide +kernel
theorem dW_hasWithin_65 : decode kW_hasWithin 65 = .ok (.iload_n 2, 1) := by decide +kernel
theorem dW_hasWithin_66 : decode kW_hasWithin 66 = .ok (.aload_n 0, 1) := by decide +kernel
theorem dW_hasWithin_67 : decode kW_hasWithin 67 = .ok (.getfield 13, 3) := by decide +kernel
theorem dW_hasWithin_70 : decode kW_hasWithin 70 = .ok (.aload_n 0, 1) := by decide +kernel
theorem dW_hasWithin_71 : decode kW_hasWithin 71 = .ok (.getfield 19, 3) := by decide +kernel
theorem dW_hasWithin_74 : decode kW_hasWithin 74 = .ok (.invokestatic 36, 3) := by decide +kernel
theorem dW_hasWithin_77 : decode kW_hasWithin 77 = .ok (.if_icmp .gt 7, 3) := by decide +kernel
theorem dW_hasWithin_80 : decode kW_hasWithin 80 = .ok (.iconst 1, 1) := by decide +kernel
theorem dW_hasWithin_81 : decode kW_hasWithin 81 = .ok (.goto 4, 3) := by decide +kernel
theorem dW_hasWithin_84 : decode kW_hasWithin 84 = .ok (.iconst 0, 1) := by decide +kernel
theorem dW_hasWithin_85 : decode kW_hasWithin 85 = .ok (.ireturn, 1) := by decide +kernel
theorem dS_init_0 : decode kS_init 0 = .ok (.aload_n 0, 1) := by decide +kernel
theorem dS_init_1 : decode kS_init 1 = .ok (.invokespecial 3, 3) := by decide +kernel
theorem dS_init_4 : decode kS_init 4 = .ok (.aload_n 0, 1) := by decide +kernel
theorem dS_init_5 : decode kS_init 5 = .ok (.bipush 64, 2) := by decide +kernel
theorem dS_init_7 : decode kS_init 7 = .ok (.anewarray 9, 3) := by decide +kernel
theorem dS_init_10 : decode kS_init 10 = .ok (.putfield 11, 3) := by decide +kernel
theorem dS_init_13 : decode kS_init 13 = .ok (.return_, 1) := by decide +kernel
theorem dS_add_0 : decode kS_add 0 = .ok (.iconst (-1), 1) := by decide +kernel
theorem dS_add_1 : decode kS_add 1 = .ok (.istore_n 2, 1) := by decide +kernel
theorem dS_add_2 : decode kS_add 2 = .ok (.bipush 63, 2) := by decide +kernel
theorem dS_add_4 : decode kS_add 4 = .ok (.istore_n 3, 1) := by decide +kernel
theorem dS_add_5 : decode kS_add 5 = .ok (.iload_n 3, 1) := by decide +kernel
theorem dS_add_6 : decode kS_add 6 = .ok (.ifCond .lt 38, 3) := by decide +kernel
theorem dS_add_9 : decode kS_add 9 = .ok (.aload_n 0, 1) := by decide +kernel
theorem dS_add_10 : decode kS_add 10 = .ok (.getfield 11, 3) := by decide +kernel
theorem dS_add_13 : decode kS_add 13 = .ok (.iload_n 3, 1) := by decide +kernel
theorem dS_add_14 : decode kS_add 14 = .ok (.aaload, 1) := by decide +kernel
theorem dS_add_15 : decode kS_add 15 = .ok (.astore 4, 2) := by decide +kernel
theorem dS_add_17 : decode kS_add 17 = .ok (.aload 4, 2) := by decide +kernel
theorem dS_add_19 : decode kS_add 19 = .ok (.ifnonnull 8, 3) := by decide +kernel
theorem dS_add_22 : decode kS_add 22 = .ok (.iload_n 3, 1) := by decide +kernel
theorem dS_add_23 : decode kS_add 23 = .ok (.istore_n 2, 1) := by decide +kernel
theorem dS_add_24 : decode kS_add 24 = .ok (.goto 14, 3) := by decide +kernel
theorem dS_add_27 : decode kS_add 27 = .ok (.aload 4, 2) := by decide +kernel
theorem dS_add_29 : decode kS_add 29 = .ok (.aload_n 1, 1) := by decide +kernel
theorem dS_add_30 : decode kS_add 30 = .ok (.invokevirtual 21, 3) := by decide +kernel
theorem dS_add_33 : decode kS_add 33 = .ok (.ifCond .eq 5, 3) := by decide +kernel
theorem dS_add_36 : decode kS_add 36 = .ok (.iconst (-1), 1) := by decide +kernel
theorem dS_add_37 : decode kS_add 37 = .ok (.ireturn, 1) := by decide +kernel
theorem dS_add_38 : decode kS_add 38 = .ok (.iinc 3 (-1), 3) := by decide +kernel
theorem dS_add_41 : decode kS_add 41 = .ok (.goto (-36), 3) := by decide +kernel
theorem dS_add_44 : decode kS_add 44 = .ok (.iload_n 2, 1) := by decide +kernel
theorem dS_add_45 : decode kS_add 45 = .ok (.iconst (-1), 1) := by decide +kernel
theorem dS_add_46 : decode kS_add 46 = .ok (.if_icmp .eq 20, 3) := by decide +kernel
theorem dS_add_49 : decode kS_add 49 = .ok (.aload_n 0, 1) := by decide +kernel
theorem dS_add_50 : decode kS_add 50 = .ok (.getfield 11, 3) := by decide +kernel
theorem dS_add_53 : decode kS_add 53 = .ok (.iload_n 2, 1) := by decide +kernel
theorem dS_add_54 : decode kS_add 54 = .ok (.aload_n 1, 1) := by decide +kernel
theorem dS_add_55 : decode kS_add 55 = .ok (.aastore, 1) := by decide +kernel
theorem dS_add_56 : decode kS_add 56 = .ok (.aload_n 0, 1) := by decide +kernel
theorem dS_add_57 : decode kS_add 57 = .ok (.dup, 1) := by decide +kernel
theorem dS_add_58 : decode kS_add 58 = .ok (.getfield 17, 3) := by decide +kernel
theorem dS_add_61 : decode kS_add 61 = .ok (.iconst 1, 1) := by decide +kernel
theorem dS_add_62 : decode kS_add 62 = .ok (.iadd, 1) := by decide +kernel
theorem dS_add_63 : decode kS_add 63 = .ok (.putfield 17, 3) := by decide +kernel
theorem dS_add_66 : decode kS_add 66 = .ok (.iload_n 2, 1) := by decide +kernel
theorem dS_add_67 : decode kS_add 67 = .ok (.ireturn, 1) := by decide +kernel
theorem dS_drop_0 : decode kS_drop 0 = .ok (.aload_n 0, 1) := by decide +kernel
theorem dS_drop_1 : decode kS_drop 1 = .ok (.iload_n 1, 1) := by decide +kernel
theorem dS_drop_2 : decode kS_drop 2 = .ok (.invokevirtual 25, 3) := by decide +kernel
theorem dS_drop_5 : decode kS_drop 5 = .ok (.ifnonnull 5, 3) := by decide +kernel
theorem dS_drop_8 : decode kS_drop 8 = .ok (.iconst 0, 1) := by decide +kernel
theorem dS_drop_9 : decode kS_drop 9 = .ok (.ireturn, 1) := by decide +kernel
theorem dS_drop_10 : decode kS_drop 10 = .ok (.aload_n 0, 1) := by decide +kernel
theorem dS_drop_11 : decode kS_drop 11 = .ok (.getfield 11, 3) := by decide +kernel
theorem dS_drop_14 : decode kS_drop 14 = .ok (.iload_n 1, 1) := by decide +kernel
theorem dS_drop_15 : decode kS_drop 15 = .ok (.aconst_null, 1) := by decide +kernel
theorem dS_drop_16 : decode kS_drop 16 = .ok (.aastore, 1) := by decide +kernel
theorem dS_drop_17 : decode kS_drop 17 = .ok (.aload_n 0, 1) := by decide +kernel
theorem dS_drop_18 : decode kS_drop 18 = .ok (.dup, 1) := by decide +kernel
theorem dS_drop_19 : decode kS_drop 19 = .ok (.getfield 17, 3) := by decide +kernel
theorem dS_drop_22 : decode kS_drop 22 = .ok (.iconst 1, 1) := by decide +kernel
theorem dS_drop_23 : decode kS_drop 23 = .ok (.isub, 1) := by decide +kernel
theorem dS_drop_24 : decode kS_drop 24 = .ok (.putfield 17, 3) := by decide +kernel
theorem dS_drop_27 : decode kS_drop 27 = .ok (.iconst 1, 1) := by decide +kernel
theorem dS_drop_28 : decode kS_drop 28 = .ok (.ireturn, 1) := by decide +kernel
theorem dS_at_0 : decode kS_at 0 = .ok (.iload_n 1, 1) := by decide +kernel
theorem dS_at_1 : decode kS_at 1 = .ok (.ifCond .lt 18, 3) := by decide +kernel
theorem dS_at_4 : decode kS_at 4 = .ok (.iload_n 1, 1) := by decide +kernel
theorem dS_at_5 : decode kS_at 5 = .ok (.bipush 64, 2) := by decide +kernel
theorem dS_at_7 : decode kS_at 7 = .ok (.if_icmp .ge 12, 3) := by decide +kernel
theorem dS_at_10 : decode kS_at 10 = .ok (.aload_n 0, 1) := by decide +kernel
theorem dS_at_11 : decode kS_at 11 = .ok (.getfield 11, 3) := by decide +kernel
theorem dS_at_14 : decode kS_at 14 = .ok (.iload_n 1, 1) := by decide +kernel
theorem dS_at_15 : decode kS_at 15 = .ok (.aaload, 1) := by decide +kernel
theorem dS_at_16 : decode kS_at 16 = .ok (.goto 4, 3) := by decide +kernel
theorem dS_at_19 : decode kS_at 19 = .ok (.aconst_null, 1) := by decide +kernel
theorem dS_at_20 : decode kS_at 20 = .ok (.areturn, 1) := by decide +kernel
theorem dS_dropAll_0 : decode kS_dropAll 0 = .ok (.iconst 0, 1) := by decide +kernel
theorem dS_dropAll_1 : decode kS_dropAll 1 = .ok (.istore_n 1, 1) := by decide +kernel
theorem dS_dropAll_2 : decode kS_dropAll 2 = .ok (.iload_n 1, 1) := by decide +kernel
theorem dS_dropAll_3 : decode kS_dropAll 3 = .ok (.bipush 64, 2) := by decide +kernel
theorem dS_dropAll_5 : decode kS_dropAll 5 = .ok (.if_icmp .ge 16, 3) := by decide +kernel
theorem dS_dropAll_8 : decode kS_dropAll 8 = .ok (.aload_n 0, 1) := by decide +kernel
theorem dS_dropAll_9 : decode kS_dropAll 9 = .ok (.getfield 11, 3) := by decide +kernel
theorem dS_dropAll_12 : decode kS_dropAll 12 = .ok (.iload_n 1, 1) := by decide +kernel
theorem dS_dropAll_13 : decode kS_dropAll 13 = .ok (.aconst_null, 1) := by decide +kernel
theorem dS_dropAll_14 : decode kS_dropAll 14 = .ok (.aastore, 1) := by decide +kernel
theorem dS_dropAll_15 : decode kS_dropAll 15 = .ok (.iinc 1 1, 3) := by decide +kernel
theorem dS_dropAll_18 : decode kS_dropAll 18 = .ok (.goto (-16), 3) := by decide +kernel
theorem dS_dropAll_21 : decode kS_dropAll 21 = .ok (.aload_n 0, 1) := by decide +kernel
theorem dS_dropAll_22 : decode kS_dropAll 22 = .ok (.iconst 0, 1) := by decide +kernel
theorem dS_dropAll_23 : decode kS_dropAll 23 = .ok (.putfield 17, 3) := by decide +kernel
theorem dS_dropAll_26 : decode kS_dropAll 26 = .ok (.return_, 1) := by decide +kernel
theorem dS_count_0 : decode kS_count 0 = .ok (.aload_n 0, 1) := by decide +kernel
theorem dS_count_1 : decode kS_count 1 = .ok (.getfield 17, 3) := by decide +kernel
theorem dS_count_4 : decode kS_count 4 = .ok (.ireturn, 1) := by decide +kernel
theorem dN_init_0 : decode kN_init 0 = .ok (.aload_n 0, 1) := by decide +kernel
theorem dN_init_1 : decode kN_init 1 = .ok (.invokespecial 3, 3) := by decide +kernel
theorem dN_init_4 : decode kN_init 4 = .ok (.aload_n 0, 1) := by decide +kernel
theorem dN_init_5 : decode kN_init 5 = .ok (.new 9, 3) := by decide +kernel
theorem dN_init_8 : decode kN_init 8 = .ok (.dup, 1) := by decide +kernel
theorem dN_init_9 : decode kN_init 9 = .ok (.invokespecial 11, 3) := by decide +kernel
theorem dN_init_12 : decode kN_init 12 = .ok (.putfield 12, 3) := by decide +kernel
theorem dN_init_15 : decode kN_init 15 = .ok (.return_, 1) := by decide +kernel
theorem dN_put_0 : decode kN_put 0 = .ok (.iload_n 1, 1) := by decide +kernel
theorem dN_put_1 : decode kN_put 1 = .ok (.iload_n 2, 1) := by decide +kernel
theorem dN_put_2 : decode kN_put 2 = .ok (.invokestatic 16, 3) := by decide +kernel
theorem dN_put_5 : decode kN_put 5 = .ok (.ifCond .eq 23, 3) := by decide +kernel
theorem dN_put_8 : decode kN_put 8 = .ok (.iload_n 3, 1) := by decide +kernel
theorem dN_put_9 : decode kN_put 9 = .ok (.iload 4, 2) := by decide +kernel
theorem dN_put_11 : decode kN_put 11 = .ok (.invokestatic 16, 3) := by decide +kernel
theorem dN_put_14 : decode kN_put 14 = .ok (.ifCond .eq 14, 3) := by decide +kernel
theorem dN_put_17 : decode kN_put 17 = .ok (.iload_n 1, 1) := by decide +kernel
theorem dN_put_18 : decode kN_put 18 = .ok (.iload_n 3, 1) := by decide +kernel
theorem dN_put_19 : decode kN_put 19 = .ok (.if_icmp .ne 11, 3) := by decide +kernel
theorem dN_put_22 : decode kN_put 22 = .ok (.iload_n 2, 1) := by decide +kernel
theorem dN_put_23 : decode kN_put 23 = .ok (.iload 4, 2) := by decide +kernel
theorem dN_put_25 : decode kN_put 25 = .ok (.if_icmp .ne 5, 3) := by decide +kernel
theorem dN_put_28 : decode kN_put 28 = .ok (.iconst (-1), 1) := by decide +kernel
theorem dN_put_29 : decode kN_put 29 = .ok (.ireturn, 1) := by decide +kernel
theorem dN_put_30 : decode kN_put 30 = .ok (.aload_n 0, 1) := by decide +kernel
theorem dN_put_31 : decode kN_put 31 = .ok (.getfield 12, 3) := by decide +kernel
theorem dN_put_34 : decode kN_put 34 = .ok (.new 20, 3) := by decide +kernel
theorem dN_put_37 : decode kN_put 37 = .ok (.dup, 1) := by decide +kernel
theorem dN_put_38 : decode kN_put 38 = .ok (.iload_n 1, 1) := by decide +kernel
theorem dN_put_39 : decode kN_put 39 = .ok (.iload_n 2, 1) := by decide +kernel
theorem dN_put_40 : decode kN_put 40 = .ok (.iload_n 3, 1) := by decide +kernel
theorem dN_put_41 : decode kN_put 41 = .ok (.iload 4, 2) := by decide +kernel
theorem dN_put_43 : decode kN_put 43 = .ok (.invokespecial 22, 3) := by decide +kernel
theorem dN_put_46 : decode kN_put 46 = .ok (.invokevirtual 25, 3) := by decide +kernel
theorem dN_put_49 : decode kN_put 49 = .ok (.ireturn, 1) := by decide +kernel
theorem dN_isPlace_0 : decode kN_isPlace 0 = .ok (.iload_n 0, 1) := by decide +kernel
theorem dN_isPlace_1 : decode kN_isPlace 1 = .ok (.sipush (-32768), 3) := by decide +kernel
theorem dN_isPlace_4 : decode kN_isPlace 4 = .ok (.if_icmp .lt 28, 3) := by decide +kernel
theorem dN_isPlace_7 : decode kN_isPlace 7 = .ok (.iload_n 0, 1) := by decide +kernel
theorem dN_isPlace_8 : decode kN_isPlace 8 = .ok (.sipush 32767, 3) := by decide +kernel
theorem dN_isPlace_11 : decode kN_isPlace 11 = .ok (.if_icmp .gt 21, 3) := by decide +kernel
theorem dN_isPlace_14 : decode kN_isPlace 14 = .ok (.iload_n 1, 1) := by decide +kernel
theorem dN_isPlace_15 : decode kN_isPlace 15 = .ok (.sipush (-32768), 3) := by decide +kernel
theorem dN_isPlace_18 : decode kN_isPlace 18 = .ok (.if_icmp .lt 14, 3) := by decide +kernel
theorem dN_isPlace_21 : decode kN_isPlace 21 = .ok (.iload_n 1, 1) := by decide +kernel
theorem dN_isPlace_22 : decode kN_isPlace 22 = .ok (.sipush 32767, 3) := by decide +kernel
theorem dN_isPlace_25 : decode kN_isPlace 25 = .ok (.if_icmp .gt 7, 3) := by decide +kernel
theorem dN_isPlace_28 : decode kN_isPlace 28 = .ok (.iconst 1, 1) := by decide +kernel
theorem dN_isPlace_29 : decode kN_isPlace 29 = .ok (.goto 4, 3) := by decide +kernel
theorem dN_isPlace_32 : decode kN_isPlace 32 = .ok (.iconst 0, 1) := by decide +kernel
theorem dN_isPlace_33 : decode kN_isPlace 33 = .ok (.ireturn, 1) := by decide +kernel
theorem dN_take_0 : decode kN_take 0 = .ok (.aload_n 0, 1) := by decide +kernel
theorem dN_take_1 : decode kN_take 1 = .ok (.getfield 12, 3) := by decide +kernel
theorem dN_take_4 : decode kN_take 4 = .ok (.iload_n 1, 1) := by decide +kernel
theorem dN_take_5 : decode kN_take 5 = .ok (.invokevirtual 29, 3) := by decide +kernel
theorem dN_take_8 : decode kN_take 8 = .ok (.ireturn, 1) := by decide +kernel
theorem dN_clear_0 : decode kN_clear 0 = .ok (.aload_n 0, 1) := by decide +kernel
theorem dN_clear_1 : decode kN_clear 1 = .ok (.getfield 12, 3) := by decide +kernel
theorem dN_clear_4 : decode kN_clear 4 = .ok (.invokevirtual 33, 3) := by decide +kernel
theorem dN_clear_7 : decode kN_clear 7 = .ok (.return_, 1) := by decide +kernel
theorem dN_node_0 : decode kN_node 0 = .ok (.aload_n 0, 1) := by decide +kernel
theorem dN_node_1 : decode kN_node 1 = .ok (.getfield 12, 3) := by decide +kernel
theorem dN_node_4 : decode kN_node 4 = .ok (.invokevirtual 36, 3) := by decide +kernel
theorem dN_node_7 : decode kN_node 7 = .ok (.aload_n 0, 1) := by decide +kernel
theorem dN_node_8 : decode kN_node 8 = .ok (.getfield 12, 3) := by decide +kernel
theorem dN_node_11 : decode kN_node 11 = .ok (.iload_n 1, 1) := by decide +kernel
theorem dN_node_12 : decode kN_node 12 = .ok (.invokevirtual 39, 3) := by decide +kernel
theorem dN_node_15 : decode kN_node 15 = .ok (.ifCond .ne 5, 3) := by decide +kernel
theorem dN_node_18 : decode kN_node 18 = .ok (.iconst (-1), 1) := by decide +kernel
theorem dN_node_19 : decode kN_node 19 = .ok (.ireturn, 1) := by decide +kernel
theorem dN_node_20 : decode kN_node 20 = .ok (.iload_n 2, 1) := by decide +kernel
theorem dN_node_21 : decode kN_node 21 = .ok (.tableswitch 93 0 5 #[39, 48, 57, 66, 75, 84], 39) := by decide +kernel
theorem dN_node_60 : decode kN_node 60 = .ok (.aload_n 0, 1) := by decide +kernel
theorem dN_node_61 : decode kN_node 61 = .ok (.getfield 12, 3) := by decide +kernel
theorem dN_node_64 : decode kN_node 64 = .ok (.iload_n 1, 1) := by decide +kernel
theorem dN_node_65 : decode kN_node 65 = .ok (.invokevirtual 42, 3) := by decide +kernel
theorem dN_node_68 : decode kN_node 68 = .ok (.ireturn, 1) := by decide +kernel
theorem dN_node_69 : decode kN_node 69 = .ok (.aload_n 0, 1) := by decide +kernel
theorem dN_node_70 : decode kN_node 70 = .ok (.getfield 12, 3) := by decide +kernel
theorem dN_node_73 : decode kN_node 73 = .ok (.iload_n 1, 1) := by decide +kernel
theorem dN_node_74 : decode kN_node 74 = .ok (.invokevirtual 46, 3) := by decide +kernel
theorem dN_node_77 : decode kN_node 77 = .ok (.ireturn, 1) := by decide +kernel
theorem dN_node_78 : decode kN_node 78 = .ok (.aload_n 0, 1) := by decide +kernel
theorem dN_node_79 : decode kN_node 79 = .ok (.getfield 12, 3) := by decide +kernel
theorem dN_node_82 : decode kN_node 82 = .ok (.iload_n 1, 1) := by decide +kernel
theorem dN_node_83 : decode kN_node 83 = .ok (.invokevirtual 49, 3) := by decide +kernel
theorem dN_node_86 : decode kN_node 86 = .ok (.ireturn, 1) := by decide +kernel
theorem dN_node_87 : decode kN_node 87 = .ok (.aload_n 0, 1) := by decide +kernel
theorem dN_node_88 : decode kN_node 88 = .ok (.getfield 12, 3) := by decide +kernel
theorem dN_node_91 : decode kN_node 91 = .ok (.iload_n 1, 1) := by decide +kernel
theorem dN_node_92 : decode kN_node 92 = .ok (.invokevirtual 52, 3) := by decide +kernel
theorem dN_node_95 : decode kN_node 95 = .ok (.ireturn, 1) := by decide +kernel
theorem dN_node_96 : decode kN_node 96 = .ok (.aload_n 0, 1) := by decide +kernel
theorem dN_node_97 : decode kN_node 97 = .ok (.getfield 12, 3) := by decide +kernel
theorem dN_node_100 : decode kN_node 100 = .ok (.iload_n 1, 1) := by decide +kernel
theorem dN_node_101 : decode kN_node 101 = .ok (.invokevirtual 55, 3) := by decide +kernel
theorem dN_node_104 : decode kN_node 104 = .ok (.ireturn, 1) := by decide +kernel
theorem dN_node_105 : decode kN_node 105 = .ok (.aload_n 0, 1) := by decide +kernel
theorem dN_node_106 : decode kN_node 106 = .ok (.getfield 12, 3) := by decide +kernel
theorem dN_node_109 : decode kN_node 109 = .ok (.iload_n 1, 1) := by decide +kernel
theorem dN_node_110 : decode kN_node 110 = .ok (.invokevirtual 58, 3) := by decide +kernel
theorem dN_node_113 : decode kN_node 113 = .ok (.ireturn, 1) := by decide +kernel
theorem dN_node_114 : decode kN_node 114 = .ok (.iconst (-1), 1) := by decide +kernel
theorem dN_node_115 : decode kN_node 115 = .ok (.ireturn, 1) := by decide +kernel
theorem dN_wall_0 : decode kN_wall 0 = .ok (.aload_n 0, 1) := by decide +kernel
theorem dN_wall_1 : decode kN_wall 1 = .ok (.getfield 12, 3) := by decide +kernel
theorem dN_wall_4 : decode kN_wall 4 = .ok (.invokevirtual 36, 3) := by decide +kernel
theorem dN_wall_7 : decode kN_wall 7 = .ok (.aload_n 0, 1) := by decide +kernel
theorem dN_wall_8 : decode kN_wall 8 = .ok (.getfield 12, 3) := by decide +kernel
theorem dN_wall_11 : decode kN_wall 11 = .ok (.aload_n 0, 1) := by decide +kernel
theorem dN_wall_12 : decode kN_wall 12 = .ok (.getfield 12, 3) := by decide +kernel
theorem dN_wall_15 : decode kN_wall 15 = .ok (.iload_n 1, 1) := by decide +kernel
theorem dN_wall_16 : decode kN_wall 16 = .ok (.iload_n 2, 1) := by decide +kernel
theorem dN_wall_17 : decode kN_wall 17 = .ok (.invokevirtual 61, 3) := by decide +kernel
theorem dN_wall_20 : decode kN_wall 20 = .ok (.invokevirtual 65, 3) := by decide +kernel
theorem dN_wall_23 : decode kN_wall 23 = .ok (.ireturn, 1) := by decide +kernel
theorem dN_quotient_0 : decode kN_quotient 0 = .ok (.aload_n 0, 1) := by decide +kernel
theorem dN_quotient_1 : decode kN_quotient 1 = .ok (.getfield 12, 3) := by decide +kernel
theorem dN_quotient_4 : decode kN_quotient 4 = .ok (.invokevirtual 36, 3) := by decide +kernel
theorem dN_quotient_7 : decode kN_quotient 7 = .ok (.aload_n 0, 1) := by decide +kernel
theorem dN_quotient_8 : decode kN_quotient 8 = .ok (.getfield 12, 3) := by decide +kernel
theorem dN_quotient_11 : decode kN_quotient 11 = .ok (.iload_n 1, 1) := by decide +kernel
theorem dN_quotient_12 : decode kN_quotient 12 = .ok (.iload_n 2, 1) := by decide +kernel
theorem dN_quotient_13 : decode kN_quotient 13 = .ok (.invokevirtual 61, 3) := by decide +kernel
theorem dN_quotient_16 : decode kN_quotient 16 = .ok (.istore 4, 2) := by decide +kernel
theorem dN_quotient_18 : decode kN_quotient 18 = .ok (.iload 4, 2) := by decide +kernel
theorem dN_quotient_20 : decode kN_quotient 20 = .ok (.iconst (-1), 1) := by decide +kernel
theorem dN_quotient_21 : decode kN_quotient 21 = .ok (.if_icmp .eq 12, 3) := by decide +kernel
theorem dN_quotient_24 : decode kN_quotient 24 = .ok (.iload_n 3, 1) := by decide +kernel
theorem dN_quotient_25 : decode kN_quotient 25 = .ok (.ifCond .lt 8, 3) := by decide +kernel
theorem dN_quotient_28 : decode kN_quotient 28 = .ok (.iload_n 3, 1) := by decide +kernel
theorem dN_quotient_29 : decode kN_quotient 29 = .ok (.iconst 3, 1) := by decide +kernel
theorem dN_quotient_30 : decode kN_quotient 30 = .ok (.if_icmp .le 7, 3) := by decide +kernel
theorem dN_quotient_33 : decode kN_quotient 33 = .ok (.ldc2_w 68, 3) := by decide +kernel
theorem dN_quotient_36 : decode kN_quotient 36 = .ok (.lreturn, 1) := by decide +kernel
theorem dN_quotient_37 : decode kN_quotient 37 = .ok (.aload_n 0, 1) := by decide +kernel
theorem dN_quotient_38 : decode kN_quotient 38 = .ok (.getfield 12, 3) := by decide +kernel
theorem dN_quotient_41 : decode kN_quotient 41 = .ok (.iload 4, 2) := by decide +kernel
theorem dN_quotient_43 : decode kN_quotient 43 = .ok (.iload_n 3, 1) := by decide +kernel
theorem dN_quotient_44 : decode kN_quotient 44 = .ok (.iconst 2, 1) := by decide +kernel
theorem dN_quotient_45 : decode kN_quotient 45 = .ok (.if_icmp .lt 7, 3) := by decide +kernel
theorem dN_quotient_48 : decode kN_quotient 48 = .ok (.iconst 1, 1) := by decide +kernel
theorem dN_quotient_49 : decode kN_quotient 49 = .ok (.goto 4, 3) := by decide +kernel
theorem dN_quotient_52 : decode kN_quotient 52 = .ok (.iconst 0, 1) := by decide +kernel
theorem dN_quotient_53 : decode kN_quotient 53 = .ok (.iload_n 3, 1) := by decide +kernel
theorem dN_quotient_54 : decode kN_quotient 54 = .ok (.iconst 2, 1) := by decide +kernel
theorem dN_quotient_55 : decode kN_quotient 55 = .ok (.irem, 1) := by decide +kernel
theorem dN_quotient_56 : decode kN_quotient 56 = .ok (.ifCond .ne 7, 3) := by decide +kernel
theorem dN_quotient_59 : decode kN_quotient 59 = .ok (.iconst 1, 1) := by decide +kernel
theorem dN_quotient_60 : decode kN_quotient 60 = .ok (.goto 4, 3) := by decide +kernel
theorem dN_quotient_63 : decode kN_quotient 63 = .ok (.iconst 0, 1) := by decide +kernel
theorem dN_quotient_64 : decode kN_quotient 64 = .ok (.invokevirtual 70, 3) := by decide +kernel
theorem dN_quotient_67 : decode kN_quotient 67 = .ok (.lreturn, 1) := by decide +kernel
theorem dN_leaf_0 : decode kN_leaf 0 = .ok (.iload_n 1, 1) := by decide +kernel
theorem dN_leaf_1 : decode kN_leaf 1 = .ok (.iload_n 2, 1) := by decide +kernel
theorem dN_leaf_2 : decode kN_leaf 2 = .ok (.invokestatic 16, 3) := by decide +kernel
theorem dN_leaf_5 : decode kN_leaf 5 = .ok (.ifCond .ne 5, 3) := by decide +kernel
theorem dN_leaf_8 : decode kN_leaf 8 = .ok (.iconst (-1), 1) := by decide +kernel
theorem dN_leaf_9 : decode kN_leaf 9 = .ok (.ireturn, 1) := by decide +kernel
theorem dN_leaf_10 : decode kN_leaf 10 = .ok (.aload_n 0, 1) := by decide +kernel
theorem dN_leaf_11 : decode kN_leaf 11 = .ok (.getfield 12, 3) := by decide +kernel
theorem dN_leaf_14 : decode kN_leaf 14 = .ok (.invokevirtual 36, 3) := by decide +kernel
theorem dN_leaf_17 : decode kN_leaf 17 = .ok (.aload_n 0, 1) := by decide +kernel
theorem dN_leaf_18 : decode kN_leaf 18 = .ok (.getfield 12, 3) := by decide +kernel
theorem dN_leaf_21 : decode kN_leaf 21 = .ok (.iload_n 1, 1) := by decide +kernel
theorem dN_leaf_22 : decode kN_leaf 22 = .ok (.iload_n 2, 1) := by decide +kernel
theorem dN_leaf_23 : decode kN_leaf 23 = .ok (.invokevirtual 74, 3) := by decide +kernel
theorem dN_leaf_26 : decode kN_leaf 26 = .ok (.ireturn, 1) := by decide +kernel
theorem dN_way_0 : decode kN_way 0 = .ok (.iload_n 1, 1) := by decide +kernel
theorem dN_way_1 : decode kN_way 1 = .ok (.iload_n 2, 1) := by decide +kernel
theorem dN_way_2 : decode kN_way 2 = .ok (.invokestatic 16, 3) := by decide +kernel
theorem dN_way_5 : decode kN_way 5 = .ok (.ifCond .ne 5, 3) := by decide +kernel
theorem dN_way_8 : decode kN_way 8 = .ok (.iconst (-1), 1) := by decide +kernel
theorem dN_way_9 : decode kN_way 9 = .ok (.ireturn, 1) := by decide +kernel
theorem dN_way_10 : decode kN_way 10 = .ok (.aload_n 0, 1) := by decide +kernel
theorem dN_way_11 : decode kN_way 11 = .ok (.iconst 1, 1) := by decide +kernel
theorem dN_way_12 : decode kN_way 12 = .ok (.putfield 77, 3) := by decide +kernel
theorem dN_way_15 : decode kN_way 15 = .ok (.aload_n 0, 1) := by decide +kernel
theorem dN_way_16 : decode kN_way 16 = .ok (.iload_n 1, 1) := by decide +kernel
theorem dN_way_17 : decode kN_way 17 = .ok (.putfield 81, 3) := by decide +kernel
theorem dN_way_20 : decode kN_way 20 = .ok (.aload_n 0, 1) := by decide +kernel
theorem dN_way_21 : decode kN_way 21 = .ok (.iload_n 2, 1) := by decide +kernel
theorem dN_way_22 : decode kN_way 22 = .ok (.putfield 85, 3) := by decide +kernel
theorem dN_way_25 : decode kN_way 25 = .ok (.aload_n 0, 1) := by decide +kernel
theorem dN_way_26 : decode kN_way 26 = .ok (.getfield 12, 3) := by decide +kernel
theorem dN_way_29 : decode kN_way 29 = .ok (.invokevirtual 36, 3) := by decide +kernel
theorem dN_way_32 : decode kN_way 32 = .ok (.aload_n 0, 1) := by decide +kernel
theorem dN_way_33 : decode kN_way 33 = .ok (.getfield 12, 3) := by decide +kernel
theorem dN_way_36 : decode kN_way 36 = .ok (.invokevirtual 88, 3) := by decide +kernel
theorem dN_way_39 : decode kN_way 39 = .ok (.ireturn, 1) := by decide +kernel
theorem dN_step_0 : decode kN_step 0 = .ok (.aload_n 0, 1) := by decide +kernel
theorem dN_step_1 : decode kN_step 1 = .ok (.getfield 77, 3) := by decide +kernel
theorem dN_step_4 : decode kN_step 4 = .ok (.ifCond .ne 5, 3) := by decide +kernel
theorem dN_step_7 : decode kN_step 7 = .ok (.iconst (-1), 1) := by decide +kernel
theorem dN_step_8 : decode kN_step 8 = .ok (.ireturn, 1) := by decide +kernel
theorem dN_step_9 : decode kN_step 9 = .ok (.aload_n 0, 1) := by decide +kernel
theorem dN_step_10 : decode kN_step 10 = .ok (.getfield 12, 3) := by decide +kernel
theorem dN_step_13 : decode kN_step 13 = .ok (.invokevirtual 36, 3) := by decide +kernel
theorem dN_step_16 : decode kN_step 16 = .ok (.aload_n 0, 1) := by decide +kernel
theorem dN_step_17 : decode kN_step 17 = .ok (.getfield 12, 3) := by decide +kernel
theorem dN_step_20 : decode kN_step 20 = .ok (.aload_n 0, 1) := by decide +kernel
theorem dN_step_21 : decode kN_step 21 = .ok (.getfield 81, 3) := by decide +kernel
theorem dN_step_24 : decode kN_step 24 = .ok (.aload_n 0, 1) := by decide +kernel
theorem dN_step_25 : decode kN_step 25 = .ok (.getfield 85, 3) := by decide +kernel
theorem dN_step_28 : decode kN_step 28 = .ok (.iload_n 1, 1) := by decide +kernel
theorem dN_step_29 : decode kN_step 29 = .ok (.invokevirtual 92, 3) := by decide +kernel
theorem dN_step_32 : decode kN_step 32 = .ok (.istore_n 3, 1) := by decide +kernel
theorem dN_step_33 : decode kN_step 33 = .ok (.iload_n 2, 1) := by decide +kernel
theorem dN_step_34 : decode kN_step 34 = .ok (.tableswitch 53 0 2 #[26, 35, 44], 26) := by decide +kernel
theorem dN_step_60 : decode kN_step 60 = .ok (.aload_n 0, 1) := by decide +kernel
theorem dN_step_61 : decode kN_step 61 = .ok (.getfield 12, 3) := by decide +kernel
theorem dN_step_64 : decode kN_step 64 = .ok (.iload_n 3, 1) := by decide +kernel
theorem dN_step_65 : decode kN_step 65 = .ok (.invokevirtual 65, 3) := by decide +kernel
theorem dN_step_68 : decode kN_step 68 = .ok (.ireturn, 1) := by decide +kernel
theorem dN_step_69 : decode kN_step 69 = .ok (.aload_n 0, 1) := by decide +kernel
theorem dN_step_70 : decode kN_step 70 = .ok (.getfield 12, 3) := by decide +kernel
theorem dN_step_73 : decode kN_step 73 = .ok (.iload_n 3, 1) := by decide +kernel
theorem dN_step_74 : decode kN_step 74 = .ok (.invokevirtual 96, 3) := by decide +kernel
theorem dN_step_77 : decode kN_step 77 = .ok (.ireturn, 1) := by decide +kernel
theorem dN_step_78 : decode kN_step 78 = .ok (.aload_n 0, 1) := by decide +kernel
theorem dN_step_79 : decode kN_step 79 = .ok (.getfield 12, 3) := by decide +kernel
theorem dN_step_82 : decode kN_step 82 = .ok (.iload_n 3, 1) := by decide +kernel
theorem dN_step_83 : decode kN_step 83 = .ok (.invokevirtual 99, 3) := by decide +kernel
theorem dN_step_86 : decode kN_step 86 = .ok (.ireturn, 1) := by decide +kernel
theorem dN_step_87 : decode kN_step 87 = .ok (.iconst (-1), 1) := by decide +kernel
theorem dN_step_88 : decode kN_step 88 = .ok (.ireturn, 1) := by decide +kernel
theorem dN_of_0 : decode kN_of 0 = .ok (.aload_n 0, 1) := by decide +kernel
theorem dN_of_1 : decode kN_of 1 = .ok (.getfield 12, 3) := by decide +kernel
theorem dN_of_4 : decode kN_of 4 = .ok (.iload_n 1, 1) := by decide +kernel
theorem dN_of_5 : decode kN_of 5 = .ok (.invokevirtual 102, 3) := by decide +kernel
theorem dN_of_8 : decode kN_of 8 = .ok (.astore_n 3, 1) := by decide +kernel
theorem dN_of_9 : decode kN_of 9 = .ok (.aload_n 3, 1) := by decide +kernel
theorem dN_of_10 : decode kN_of 10 = .ok (.ifnonnull 6, 3) := by decide +kernel
theorem dN_of_13 : decode kN_of 13 = .ok (.ldc 106, 2) := by decide +kernel
theorem dN_of_15 : decode kN_of 15 = .ok (.ireturn, 1) := by decide +kernel
theorem dN_of_16 : decode kN_of 16 = .ok (.iload_n 2, 1) := by decide +kernel
theorem dN_of_17 : decode kN_of 17 = .ok (.tableswitch 71 0 4 #[35, 40, 45, 50, 55], 35) := by decide +kernel
theorem dN_of_52 : decode kN_of 52 = .ok (.aload_n 3, 1) := by decide +kernel
theorem dN_of_53 : decode kN_of 53 = .ok (.getfield 107, 3) := by decide +kernel
theorem dN_of_56 : decode kN_of 56 = .ok (.ireturn, 1) := by decide +kernel
theorem dN_of_57 : decode kN_of 57 = .ok (.aload_n 3, 1) := by decide +kernel
theorem dN_of_58 : decode kN_of 58 = .ok (.getfield 110, 3) := by decide +kernel
theorem dN_of_61 : decode kN_of 61 = .ok (.ireturn, 1) := by decide +kernel
theorem dN_of_62 : decode kN_of 62 = .ok (.aload_n 3, 1) := by decide +kernel
theorem dN_of_63 : decode kN_of 63 = .ok (.getfield 113, 3) := by decide +kernel
theorem dN_of_66 : decode kN_of 66 = .ok (.ireturn, 1) := by decide +kernel
theorem dN_of_67 : decode kN_of 67 = .ok (.aload_n 3, 1) := by decide +kernel
theorem dN_of_68 : decode kN_of 68 = .ok (.getfield 116, 3) := by decide +kernel
theorem dN_of_71 : decode kN_of 71 = .ok (.ireturn, 1) := by decide +kernel
theorem dN_of_72 : decode kN_of 72 = .ok (.aload_n 0, 1) := by decide +kernel
theorem dN_of_73 : decode kN_of 73 = .ok (.getfield 12, 3) := by decide +kernel
theorem dN_of_76 : decode kN_of 76 = .ok (.invokevirtual 36, 3) := by decide +kernel
theorem dN_of_79 : decode kN_of 79 = .ok (.aload_n 0, 1) := by decide +kernel
theorem dN_of_80 : decode kN_of 80 = .ok (.getfield 12, 3) := by decide +kernel
theorem dN_of_83 : decode kN_of 83 = .ok (.iload_n 1, 1) := by decide +kernel
theorem dN_of_84 : decode kN_of 84 = .ok (.invokevirtual 119, 3) := by decide +kernel
theorem dN_of_87 : decode kN_of 87 = .ok (.ireturn, 1) := by decide +kernel
theorem dN_of_88 : decode kN_of 88 = .ok (.ldc 106, 2) := by decide +kernel
theorem dN_of_90 : decode kN_of 90 = .ok (.ireturn, 1) := by decide +kernel
theorem dN_look_0 : decode kN_look 0 = .ok (.aload_n 0, 1) := by decide +kernel
theorem dN_look_1 : decode kN_look 1 = .ok (.getfield 12, 3) := by decide +kernel
theorem dN_look_4 : decode kN_look 4 = .ok (.invokevirtual 36, 3) := by decide +kernel
theorem dN_look_7 : decode kN_look 7 = .ok (.iload_n 1, 1) := by decide +kernel
theorem dN_look_8 : decode kN_look 8 = .ok (.tableswitch 98 0 5 #[40, 48, 56, 66, 74, 82], 40) := by decide +kernel
theorem dN_look_48 : decode kN_look 48 = .ok (.aload_n 0, 1) := by decide +kernel
theorem dN_look_49 : decode kN_look 49 = .ok (.getfield 12, 3) := by decide +kernel
theorem dN_look_52 : decode kN_look 52 = .ok (.invokevirtual 122, 3) := by decide +kernel
theorem dN_look_55 : decode kN_look 55 = .ok (.ireturn, 1) := by decide +kernel
theorem dN_look_56 : decode kN_look 56 = .ok (.aload_n 0, 1) := by decide +kernel
theorem dN_look_57 : decode kN_look 57 = .ok (.getfield 12, 3) := by decide +kernel
theorem dN_look_60 : decode kN_look 60 = .ok (.invokevirtual 125, 3) := by decide +kernel
theorem dN_look_63 : decode kN_look 63 = .ok (.ireturn, 1) := by decide +kernel
theorem dN_look_64 : decode kN_look 64 = .ok (.aload_n 0, 1) := by decide +kernel
theorem dN_look_65 : decode kN_look 65 = .ok (.getfield 12, 3) := by decide +kernel
theorem dN_look_68 : decode kN_look 68 = .ok (.invokevirtual 125, 3) := by decide +kernel
theorem dN_look_71 : decode kN_look 71 = .ok (.iconst 1, 1) := by decide +kernel
theorem dN_look_72 : decode kN_look 72 = .ok (.iadd, 1) := by decide +kernel
theorem dN_look_73 : decode kN_look 73 = .ok (.ireturn, 1) := by decide +kernel
theorem dN_look_74 : decode kN_look 74 = .ok (.aload_n 0, 1) := by decide +kernel
theorem dN_look_75 : decode kN_look 75 = .ok (.getfield 12, 3) := by decide +kernel
theorem dN_look_78 : decode kN_look 78 = .ok (.invokevirtual 88, 3) := by decide +kernel
theorem dN_look_81 : decode kN_look 81 = .ok (.ireturn, 1) := by decide +kernel
theorem dN_look_82 : decode kN_look 82 = .ok (.aload_n 0, 1) := by decide +kernel
theorem dN_look_83 : decode kN_look 83 = .ok (.getfield 12, 3) := by decide +kernel
theorem dN_look_86 : decode kN_look 86 = .ok (.invokevirtual 128, 3) := by decide +kernel
theorem dN_look_89 : decode kN_look 89 = .ok (.ireturn, 1) := by decide +kernel
theorem dN_look_90 : decode kN_look 90 = .ok (.aload_n 0, 1) := by decide +kernel
theorem dN_look_91 : decode kN_look 91 = .ok (.getfield 12, 3) := by decide +kernel
theorem dN_look_94 : decode kN_look 94 = .ok (.invokevirtual 88, 3) := by decide +kernel
theorem dN_look_97 : decode kN_look 97 = .ok (.aload_n 0, 1) := by decide +kernel
theorem dN_look_98 : decode kN_look 98 = .ok (.getfield 12, 3) := by decide +kernel
theorem dN_look_101 : decode kN_look 101 = .ok (.invokevirtual 122, 3) := by decide +kernel
theorem dN_look_104 : decode kN_look 104 = .ok (.isub, 1) := by decide +kernel
theorem dN_look_105 : decode kN_look 105 = .ok (.ireturn, 1) := by decide +kernel
theorem dN_look_106 : decode kN_look 106 = .ok (.iconst (-1), 1) := by decide +kernel
theorem dN_look_107 : decode kN_look 107 = .ok (.ireturn, 1) := by decide +kernel
theorem dA_copyOf_0 : decode kA_copyOf 0 = .ok (.iload_n 1, 1) := by decide +kernel
theorem dA_copyOf_1 : decode kA_copyOf 1 = .ok (.aload_n 0, 1) := by decide +kernel
theorem dA_copyOf_2 : decode kA_copyOf 2 = .ok (.arraylength, 1) := by decide +kernel
theorem dA_copyOf_3 : decode kA_copyOf 3 = .ok (.if_icmp .ne 11, 3) := by decide +kernel
theorem dA_copyOf_6 : decode kA_copyOf 6 = .ok (.aload_n 0, 1) := by decide +kernel
theorem dA_copyOf_7 : decode kA_copyOf 7 = .ok (.invokevirtual 316, 3) := by decide +kernel
theorem dA_copyOf_10 : decode kA_copyOf 10 = .ok (.checkcast 317, 3) := by decide +kernel
theorem dA_copyOf_13 : decode kA_copyOf 13 = .ok (.areturn, 1) := by decide +kernel
theorem dA_copyOf_14 : decode kA_copyOf 14 = .ok (.iload_n 1, 1) := by decide +kernel
theorem dA_copyOf_15 : decode kA_copyOf 15 = .ok (.newarray .int, 2) := by decide +kernel
theorem dA_copyOf_17 : decode kA_copyOf 17 = .ok (.astore_n 2, 1) := by decide +kernel
theorem dA_copyOf_18 : decode kA_copyOf 18 = .ok (.aload_n 0, 1) := by decide +kernel
theorem dA_copyOf_19 : decode kA_copyOf 19 = .ok (.iconst 0, 1) := by decide +kernel
theorem dA_copyOf_20 : decode kA_copyOf 20 = .ok (.aload_n 2, 1) := by decide +kernel
theorem dA_copyOf_21 : decode kA_copyOf 21 = .ok (.iconst 0, 1) := by decide +kernel
theorem dA_copyOf_22 : decode kA_copyOf 22 = .ok (.aload_n 0, 1) := by decide +kernel
theorem dA_copyOf_23 : decode kA_copyOf 23 = .ok (.arraylength, 1) := by decide +kernel
theorem dA_copyOf_24 : decode kA_copyOf 24 = .ok (.iload_n 1, 1) := by decide +kernel
theorem dA_copyOf_25 : decode kA_copyOf 25 = .ok (.invokestatic 304, 3) := by decide +kernel
theorem dA_copyOf_28 : decode kA_copyOf 28 = .ok (.invokestatic 150, 3) := by decide +kernel
theorem dA_copyOf_31 : decode kA_copyOf 31 = .ok (.aload_n 2, 1) := by decide +kernel
theorem dA_copyOf_32 : decode kA_copyOf 32 = .ok (.areturn, 1) := by decide +kernel
theorem dH_multiplyHigh_0 : decode kH_multiplyHigh 0 = .ok (.lload_n 0, 1) := by decide +kernel
theorem dH_multiplyHigh_1 : decode kH_multiplyHigh 1 = .ok (.bipush 32, 2) := by decide +kernel
theorem dH_multiplyHigh_3 : decode kH_multiplyHigh 3 = .ok (.lshr, 1) := by decide +kernel
theorem dH_multiplyHigh_4 : decode kH_multiplyHigh 4 = .ok (.lstore 4, 2) := by decide +kernel
theorem dH_multiplyHigh_6 : decode kH_multiplyHigh 6 = .ok (.lload_n 0, 1) := by decide +kernel
theorem dH_multiplyHigh_7 : decode kH_multiplyHigh 7 = .ok (.ldc2_w 138, 3) := by decide +kernel
theorem dH_multiplyHigh_10 : decode kH_multiplyHigh 10 = .ok (.land, 1) := by decide +kernel
theorem dH_multiplyHigh_11 : decode kH_multiplyHigh 11 = .ok (.lstore 6, 2) := by decide +kernel
theorem dH_multiplyHigh_13 : decode kH_multiplyHigh 13 = .ok (.lload_n 2, 1) := by decide +kernel
theorem dH_multiplyHigh_14 : decode kH_multiplyHigh 14 = .ok (.bipush 32, 2) := by decide +kernel
theorem dH_multiplyHigh_16 : decode kH_multiplyHigh 16 = .ok (.lshr, 1) := by decide +kernel
theorem dH_multiplyHigh_17 : decode kH_multiplyHigh 17 = .ok (.lstore 8, 2) := by decide +kernel
theorem dH_multiplyHigh_19 : decode kH_multiplyHigh 19 = .ok (.lload_n 2, 1) := by decide +kernel
theorem dH_multiplyHigh_20 : decode kH_multiplyHigh 20 = .ok (.ldc2_w 138, 3) := by decide +kernel
theorem dH_multiplyHigh_23 : decode kH_multiplyHigh 23 = .ok (.land, 1) := by decide +kernel
theorem dH_multiplyHigh_24 : decode kH_multiplyHigh 24 = .ok (.lstore 10, 2) := by decide +kernel
theorem dH_multiplyHigh_26 : decode kH_multiplyHigh 26 = .ok (.lload 6, 2) := by decide +kernel
theorem dH_multiplyHigh_28 : decode kH_multiplyHigh 28 = .ok (.lload 10, 2) := by decide +kernel
theorem dH_multiplyHigh_30 : decode kH_multiplyHigh 30 = .ok (.lmul, 1) := by decide +kernel
theorem dH_multiplyHigh_31 : decode kH_multiplyHigh 31 = .ok (.lstore 12, 2) := by decide +kernel
theorem dH_multiplyHigh_33 : decode kH_multiplyHigh 33 = .ok (.lload 4, 2) := by decide +kernel
theorem dH_multiplyHigh_35 : decode kH_multiplyHigh 35 = .ok (.lload 10, 2) := by decide +kernel
theorem dH_multiplyHigh_37 : decode kH_multiplyHigh 37 = .ok (.lmul, 1) := by decide +kernel
theorem dH_multiplyHigh_38 : decode kH_multiplyHigh 38 = .ok (.lload 12, 2) := by decide +kernel
theorem dH_multiplyHigh_40 : decode kH_multiplyHigh 40 = .ok (.bipush 32, 2) := by decide +kernel
theorem dH_multiplyHigh_42 : decode kH_multiplyHigh 42 = .ok (.lushr, 1) := by decide +kernel
theorem dH_multiplyHigh_43 : decode kH_multiplyHigh 43 = .ok (.ladd, 1) := by decide +kernel
theorem dH_multiplyHigh_44 : decode kH_multiplyHigh 44 = .ok (.lstore 14, 2) := by decide +kernel
theorem dH_multiplyHigh_46 : decode kH_multiplyHigh 46 = .ok (.lload 14, 2) := by decide +kernel
theorem dH_multiplyHigh_48 : decode kH_multiplyHigh 48 = .ok (.ldc2_w 138, 3) := by decide +kernel
theorem dH_multiplyHigh_51 : decode kH_multiplyHigh 51 = .ok (.land, 1) := by decide +kernel
theorem dH_multiplyHigh_52 : decode kH_multiplyHigh 52 = .ok (.lstore 16, 2) := by decide +kernel
theorem dH_multiplyHigh_54 : decode kH_multiplyHigh 54 = .ok (.lload 14, 2) := by decide +kernel
theorem dH_multiplyHigh_56 : decode kH_multiplyHigh 56 = .ok (.bipush 32, 2) := by decide +kernel
theorem dH_multiplyHigh_58 : decode kH_multiplyHigh 58 = .ok (.lshr, 1) := by decide +kernel
theorem dH_multiplyHigh_59 : decode kH_multiplyHigh 59 = .ok (.lstore 18, 2) := by decide +kernel
theorem dH_multiplyHigh_61 : decode kH_multiplyHigh 61 = .ok (.lload 16, 2) := by decide +kernel
theorem dH_multiplyHigh_63 : decode kH_multiplyHigh 63 = .ok (.lload 6, 2) := by decide +kernel
theorem dH_multiplyHigh_65 : decode kH_multiplyHigh 65 = .ok (.lload 8, 2) := by decide +kernel
theorem dH_multiplyHigh_67 : decode kH_multiplyHigh 67 = .ok (.lmul, 1) := by decide +kernel
theorem dH_multiplyHigh_68 : decode kH_multiplyHigh 68 = .ok (.ladd, 1) := by decide +kernel
theorem dH_multiplyHigh_69 : decode kH_multiplyHigh 69 = .ok (.lstore 16, 2) := by decide +kernel
theorem dH_multiplyHigh_71 : decode kH_multiplyHigh 71 = .ok (.lload 4, 2) := by decide +kernel
theorem dH_multiplyHigh_73 : decode kH_multiplyHigh 73 = .ok (.lload 8, 2) := by decide +kernel
theorem dH_multiplyHigh_75 : decode kH_multiplyHigh 75 = .ok (.lmul, 1) := by decide +kernel
theorem dH_multiplyHigh_76 : decode kH_multiplyHigh 76 = .ok (.lload 18, 2) := by decide +kernel
theorem dH_multiplyHigh_78 : decode kH_multiplyHigh 78 = .ok (.ladd, 1) := by decide +kernel
theorem dH_multiplyHigh_79 : decode kH_multiplyHigh 79 = .ok (.lload 16, 2) := by decide +kernel
theorem dH_multiplyHigh_81 : decode kH_multiplyHigh 81 = .ok (.bipush 32, 2) := by decide +kernel
theorem dH_multiplyHigh_83 : decode kH_multiplyHigh 83 = .ok (.lshr, 1) := by decide +kernel
theorem dH_multiplyHigh_84 : decode kH_multiplyHigh 84 = .ok (.ladd, 1) := by decide +kernel
theorem dH_multiplyHigh_85 : decode kH_multiplyHigh 85 = .ok (.lreturn, 1) := by decide +kernel
