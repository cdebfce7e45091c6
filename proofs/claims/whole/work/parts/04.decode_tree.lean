theorem dT_init_0 : decode kT_init 0 = .ok (.aload_n 0, 1) := by decide +kernel
theorem dT_init_1 : decode kT_init 1 = .ok (.invokespecial 3, 3) := by decide +kernel
theorem dT_init_4 : decode kT_init 4 = .ok (.aload_n 0, 1) := by decide +kernel
theorem dT_init_5 : decode kT_init 5 = .ok (.new 9, 3) := by decide +kernel
theorem dT_init_8 : decode kT_init 8 = .ok (.dup, 1) := by decide +kernel
theorem dT_init_9 : decode kT_init 9 = .ok (.invokespecial 11, 3) := by decide +kernel
theorem dT_init_12 : decode kT_init 12 = .ok (.putfield 12, 3) := by decide +kernel
theorem dT_init_15 : decode kT_init 15 = .ok (.aload_n 0, 1) := by decide +kernel
theorem dT_init_16 : decode kT_init 16 = .ok (.new 18, 3) := by decide +kernel
theorem dT_init_19 : decode kT_init 19 = .ok (.dup, 1) := by decide +kernel
theorem dT_init_20 : decode kT_init 20 = .ok (.invokespecial 20, 3) := by decide +kernel
theorem dT_init_23 : decode kT_init 23 = .ok (.putfield 21, 3) := by decide +kernel
theorem dT_init_26 : decode kT_init 26 = .ok (.aload_n 0, 1) := by decide +kernel
theorem dT_init_27 : decode kT_init 27 = .ok (.new 18, 3) := by decide +kernel
theorem dT_init_30 : decode kT_init 30 = .ok (.dup, 1) := by decide +kernel
theorem dT_init_31 : decode kT_init 31 = .ok (.invokespecial 20, 3) := by decide +kernel
theorem dT_init_34 : decode kT_init 34 = .ok (.putfield 25, 3) := by decide +kernel
theorem dT_init_37 : decode kT_init 37 = .ok (.aload_n 0, 1) := by decide +kernel
theorem dT_init_38 : decode kT_init 38 = .ok (.new 18, 3) := by decide +kernel
theorem dT_init_41 : decode kT_init 41 = .ok (.dup, 1) := by decide +kernel
theorem dT_init_42 : decode kT_init 42 = .ok (.invokespecial 20, 3) := by decide +kernel
theorem dT_init_45 : decode kT_init 45 = .ok (.putfield 28, 3) := by decide +kernel
theorem dT_init_48 : decode kT_init 48 = .ok (.aload_n 0, 1) := by decide +kernel
theorem dT_init_49 : decode kT_init 49 = .ok (.new 18, 3) := by decide +kernel
theorem dT_init_52 : decode kT_init 52 = .ok (.dup, 1) := by decide +kernel
theorem dT_init_53 : decode kT_init 53 = .ok (.invokespecial 20, 3) := by decide +kernel
theorem dT_init_56 : decode kT_init 56 = .ok (.putfield 31, 3) := by decide +kernel
theorem dT_init_59 : decode kT_init 59 = .ok (.aload_n 0, 1) := by decide +kernel
theorem dT_init_60 : decode kT_init 60 = .ok (.new 18, 3) := by decide +kernel
theorem dT_init_63 : decode kT_init 63 = .ok (.dup, 1) := by decide +kernel
theorem dT_init_64 : decode kT_init 64 = .ok (.invokespecial 20, 3) := by decide +kernel
theorem dT_init_67 : decode kT_init 67 = .ok (.putfield 34, 3) := by decide +kernel
theorem dT_init_70 : decode kT_init 70 = .ok (.aload_n 0, 1) := by decide +kernel
theorem dT_init_71 : decode kT_init 71 = .ok (.new 18, 3) := by decide +kernel
theorem dT_init_74 : decode kT_init 74 = .ok (.dup, 1) := by decide +kernel
theorem dT_init_75 : decode kT_init 75 = .ok (.invokespecial 20, 3) := by decide +kernel
theorem dT_init_78 : decode kT_init 78 = .ok (.putfield 37, 3) := by decide +kernel
theorem dT_init_81 : decode kT_init 81 = .ok (.aload_n 0, 1) := by decide +kernel
theorem dT_init_82 : decode kT_init 82 = .ok (.new 40, 3) := by decide +kernel
theorem dT_init_85 : decode kT_init 85 = .ok (.dup, 1) := by decide +kernel
theorem dT_init_86 : decode kT_init 86 = .ok (.invokespecial 42, 3) := by decide +kernel
theorem dT_init_89 : decode kT_init 89 = .ok (.putfield 43, 3) := by decide +kernel
theorem dT_init_92 : decode kT_init 92 = .ok (.aload_n 0, 1) := by decide +kernel
theorem dT_init_93 : decode kT_init 93 = .ok (.new 18, 3) := by decide +kernel
theorem dT_init_96 : decode kT_init 96 = .ok (.dup, 1) := by decide +kernel
theorem dT_init_97 : decode kT_init 97 = .ok (.invokespecial 20, 3) := by decide +kernel
theorem dT_init_100 : decode kT_init 100 = .ok (.putfield 47, 3) := by decide +kernel
theorem dT_init_103 : decode kT_init 103 = .ok (.aload_n 0, 1) := by decide +kernel
theorem dT_init_104 : decode kT_init 104 = .ok (.new 40, 3) := by decide +kernel
theorem dT_init_107 : decode kT_init 107 = .ok (.dup, 1) := by decide +kernel
theorem dT_init_108 : decode kT_init 108 = .ok (.invokespecial 42, 3) := by decide +kernel
theorem dT_init_111 : decode kT_init 111 = .ok (.putfield 50, 3) := by decide +kernel
theorem dT_init_114 : decode kT_init 114 = .ok (.aload_n 0, 1) := by decide +kernel
theorem dT_init_115 : decode kT_init 115 = .ok (.new 18, 3) := by decide +kernel
theorem dT_init_118 : decode kT_init 118 = .ok (.dup, 1) := by decide +kernel
theorem dT_init_119 : decode kT_init 119 = .ok (.invokespecial 20, 3) := by decide +kernel
theorem dT_init_122 : decode kT_init 122 = .ok (.putfield 53, 3) := by decide +kernel
theorem dT_init_125 : decode kT_init 125 = .ok (.aload_n 0, 1) := by decide +kernel
theorem dT_init_126 : decode kT_init 126 = .ok (.new 18, 3) := by decide +kernel
theorem dT_init_129 : decode kT_init 129 = .ok (.dup, 1) := by decide +kernel
theorem dT_init_130 : decode kT_init 130 = .ok (.invokespecial 20, 3) := by decide +kernel
theorem dT_init_133 : decode kT_init 133 = .ok (.putfield 56, 3) := by decide +kernel
theorem dT_init_136 : decode kT_init 136 = .ok (.aload_n 0, 1) := by decide +kernel
theorem dT_init_137 : decode kT_init 137 = .ok (.new 18, 3) := by decide +kernel
theorem dT_init_140 : decode kT_init 140 = .ok (.dup, 1) := by decide +kernel
theorem dT_init_141 : decode kT_init 141 = .ok (.invokespecial 20, 3) := by decide +kernel
theorem dT_init_144 : decode kT_init 144 = .ok (.putfield 59, 3) := by decide +kernel
theorem dT_init_147 : decode kT_init 147 = .ok (.aload_n 0, 1) := by decide +kernel
theorem dT_init_148 : decode kT_init 148 = .ok (.new 40, 3) := by decide +kernel
theorem dT_init_151 : decode kT_init 151 = .ok (.dup, 1) := by decide +kernel
theorem dT_init_152 : decode kT_init 152 = .ok (.invokespecial 42, 3) := by decide +kernel
theorem dT_init_155 : decode kT_init 155 = .ok (.putfield 62, 3) := by decide +kernel
theorem dT_init_158 : decode kT_init 158 = .ok (.return_, 1) := by decide +kernel
theorem dT_addWall_0 : decode kT_addWall 0 = .ok (.aload_n 0, 1) := by decide +kernel
theorem dT_addWall_1 : decode kT_addWall 1 = .ok (.getfield 12, 3) := by decide +kernel
theorem dT_addWall_4 : decode kT_addWall 4 = .ok (.aload_n 1, 1) := by decide +kernel
theorem dT_addWall_5 : decode kT_addWall 5 = .ok (.invokevirtual 73, 3) := by decide +kernel
theorem dT_addWall_8 : decode kT_addWall 8 = .ok (.istore_n 2, 1) := by decide +kernel
theorem dT_addWall_9 : decode kT_addWall 9 = .ok (.aload_n 0, 1) := by decide +kernel
theorem dT_addWall_10 : decode kT_addWall 10 = .ok (.aload_n 0, 1) := by decide +kernel
theorem dT_addWall_11 : decode kT_addWall 11 = .ok (.getfield 77, 3) := by decide +kernel
theorem dT_addWall_14 : decode kT_addWall 14 = .ok (.ifCond .ne 8, 3) := by decide +kernel
theorem dT_addWall_17 : decode kT_addWall 17 = .ok (.iload_n 2, 1) := by decide +kernel
theorem dT_addWall_18 : decode kT_addWall 18 = .ok (.iconst (-1), 1) := by decide +kernel
theorem dT_addWall_19 : decode kT_addWall 19 = .ok (.if_icmp .eq 7, 3) := by decide +kernel
theorem dT_addWall_22 : decode kT_addWall 22 = .ok (.iconst 1, 1) := by decide +kernel
theorem dT_addWall_23 : decode kT_addWall 23 = .ok (.goto 4, 3) := by decide +kernel
theorem dT_addWall_26 : decode kT_addWall 26 = .ok (.iconst 0, 1) := by decide +kernel
theorem dT_addWall_27 : decode kT_addWall 27 = .ok (.putfield 77, 3) := by decide +kernel
theorem dT_addWall_30 : decode kT_addWall 30 = .ok (.iload_n 2, 1) := by decide +kernel
theorem dT_addWall_31 : decode kT_addWall 31 = .ok (.ireturn, 1) := by decide +kernel
theorem dT_dropWall_0 : decode kT_dropWall 0 = .ok (.aload_n 0, 1) := by decide +kernel
theorem dT_dropWall_1 : decode kT_dropWall 1 = .ok (.getfield 12, 3) := by decide +kernel
theorem dT_dropWall_4 : decode kT_dropWall 4 = .ok (.iload_n 1, 1) := by decide +kernel
theorem dT_dropWall_5 : decode kT_dropWall 5 = .ok (.invokevirtual 81, 3) := by decide +kernel
theorem dT_dropWall_8 : decode kT_dropWall 8 = .ok (.istore_n 2, 1) := by decide +kernel
theorem dT_dropWall_9 : decode kT_dropWall 9 = .ok (.aload_n 0, 1) := by decide +kernel
theorem dT_dropWall_10 : decode kT_dropWall 10 = .ok (.aload_n 0, 1) := by decide +kernel
theorem dT_dropWall_11 : decode kT_dropWall 11 = .ok (.getfield 77, 3) := by decide +kernel
theorem dT_dropWall_14 : decode kT_dropWall 14 = .ok (.ifCond .ne 7, 3) := by decide +kernel
theorem dT_dropWall_17 : decode kT_dropWall 17 = .ok (.iload_n 2, 1) := by decide +kernel
theorem dT_dropWall_18 : decode kT_dropWall 18 = .ok (.ifCond .eq 7, 3) := by decide +kernel
theorem dT_dropWall_21 : decode kT_dropWall 21 = .ok (.iconst 1, 1) := by decide +kernel
theorem dT_dropWall_22 : decode kT_dropWall 22 = .ok (.goto 4, 3) := by decide +kernel
theorem dT_dropWall_25 : decode kT_dropWall 25 = .ok (.iconst 0, 1) := by decide +kernel
theorem dT_dropWall_26 : decode kT_dropWall 26 = .ok (.putfield 77, 3) := by decide +kernel
theorem dT_dropWall_29 : decode kT_dropWall 29 = .ok (.iload_n 2, 1) := by decide +kernel
theorem dT_dropWall_30 : decode kT_dropWall 30 = .ok (.ireturn, 1) := by decide +kernel
theorem dT_dropAllWalls_0 : decode kT_dropAllWalls 0 = .ok (.aload_n 0, 1) := by decide +kernel
theorem dT_dropAllWalls_1 : decode kT_dropAllWalls 1 = .ok (.getfield 12, 3) := by decide +kernel
theorem dT_dropAllWalls_4 : decode kT_dropAllWalls 4 = .ok (.invokevirtual 85, 3) := by decide +kernel
theorem dT_dropAllWalls_7 : decode kT_dropAllWalls 7 = .ok (.aload_n 0, 1) := by decide +kernel
theorem dT_dropAllWalls_8 : decode kT_dropAllWalls 8 = .ok (.iconst 1, 1) := by decide +kernel
theorem dT_dropAllWalls_9 : decode kT_dropAllWalls 9 = .ok (.putfield 77, 3) := by decide +kernel
theorem dT_dropAllWalls_12 : decode kT_dropAllWalls 12 = .ok (.return_, 1) := by decide +kernel
theorem dT_grow_0 : decode kT_grow 0 = .ok (.aload_n 0, 1) := by decide +kernel
theorem dT_grow_1 : decode kT_grow 1 = .ok (.getfield 77, 3) := by decide +kernel
theorem dT_grow_4 : decode kT_grow 4 = .ok (.ifCond .ne 4, 3) := by decide +kernel
theorem dT_grow_7 : decode kT_grow 7 = .ok (.return_, 1) := by decide +kernel
theorem dT_grow_8 : decode kT_grow 8 = .ok (.aload_n 0, 1) := by decide +kernel
theorem dT_grow_9 : decode kT_grow 9 = .ok (.invokevirtual 88, 3) := by decide +kernel
theorem dT_grow_12 : decode kT_grow 12 = .ok (.iconst 0, 1) := by decide +kernel
theorem dT_grow_13 : decode kT_grow 13 = .ok (.istore_n 1, 1) := by decide +kernel
theorem dT_grow_14 : decode kT_grow 14 = .ok (.iload_n 1, 1) := by decide +kernel
theorem dT_grow_15 : decode kT_grow 15 = .ok (.bipush 64, 2) := by decide +kernel
theorem dT_grow_17 : decode kT_grow 17 = .ok (.if_icmp .ge 30, 3) := by decide +kernel
theorem dT_grow_20 : decode kT_grow 20 = .ok (.aload_n 0, 1) := by decide +kernel
theorem dT_grow_21 : decode kT_grow 21 = .ok (.getfield 12, 3) := by decide +kernel
theorem dT_grow_24 : decode kT_grow 24 = .ok (.iload_n 1, 1) := by decide +kernel
theorem dT_grow_25 : decode kT_grow 25 = .ok (.invokevirtual 65, 3) := by decide +kernel
theorem dT_grow_28 : decode kT_grow 28 = .ok (.ifnull 13, 3) := by decide +kernel
theorem dT_grow_31 : decode kT_grow 31 = .ok (.aload_n 0, 1) := by decide +kernel
theorem dT_grow_32 : decode kT_grow 32 = .ok (.getfield 50, 3) := by decide +kernel
theorem dT_grow_35 : decode kT_grow 35 = .ok (.iload_n 1, 1) := by decide +kernel
theorem dT_grow_36 : decode kT_grow 36 = .ok (.iconst (-1), 1) := by decide +kernel
theorem dT_grow_37 : decode kT_grow 37 = .ok (.iconst (-1), 1) := by decide +kernel
theorem dT_grow_38 : decode kT_grow 38 = .ok (.invokevirtual 91, 3) := by decide +kernel
theorem dT_grow_41 : decode kT_grow 41 = .ok (.iinc 1 1, 3) := by decide +kernel
theorem dT_grow_44 : decode kT_grow 44 = .ok (.goto (-30), 3) := by decide +kernel
theorem dT_grow_47 : decode kT_grow 47 = .ok (.aload_n 0, 1) := by decide +kernel
theorem dT_grow_48 : decode kT_grow 48 = .ok (.getfield 50, 3) := by decide +kernel
theorem dT_grow_51 : decode kT_grow 51 = .ok (.invokevirtual 94, 3) := by decide +kernel
theorem dT_grow_54 : decode kT_grow 54 = .ok (.ifCond .le 10, 3) := by decide +kernel
theorem dT_grow_57 : decode kT_grow 57 = .ok (.aload_n 0, 1) := by decide +kernel
theorem dT_grow_58 : decode kT_grow 58 = .ok (.iconst 0, 1) := by decide +kernel
theorem dT_grow_59 : decode kT_grow 59 = .ok (.iconst (-1), 1) := by decide +kernel
theorem dT_grow_60 : decode kT_grow 60 = .ok (.iconst 1, 1) := by decide +kernel
theorem dT_grow_61 : decode kT_grow 61 = .ok (.invokevirtual 95, 3) := by decide +kernel
theorem dT_grow_64 : decode kT_grow 64 = .ok (.iconst 0, 1) := by decide +kernel
theorem dT_grow_65 : decode kT_grow 65 = .ok (.istore_n 1, 1) := by decide +kernel
theorem dT_grow_66 : decode kT_grow 66 = .ok (.iload_n 1, 1) := by decide +kernel
theorem dT_grow_67 : decode kT_grow 67 = .ok (.sipush 4096, 3) := by decide +kernel
theorem dT_grow_70 : decode kT_grow 70 = .ok (.if_icmp .ge 23, 3) := by decide +kernel
theorem dT_grow_73 : decode kT_grow 73 = .ok (.aload_n 0, 1) := by decide +kernel
theorem dT_grow_74 : decode kT_grow 74 = .ok (.getfield 53, 3) := by decide +kernel
theorem dT_grow_77 : decode kT_grow 77 = .ok (.invokevirtual 98, 3) := by decide +kernel
theorem dT_grow_80 : decode kT_grow 80 = .ok (.ifCond .le 13, 3) := by decide +kernel
theorem dT_grow_83 : decode kT_grow 83 = .ok (.aload_n 0, 1) := by decide +kernel
theorem dT_grow_84 : decode kT_grow 84 = .ok (.invokevirtual 99, 3) := by decide +kernel
theorem dT_grow_87 : decode kT_grow 87 = .ok (.iinc 1 1, 3) := by decide +kernel
theorem dT_grow_90 : decode kT_grow 90 = .ok (.goto (-24), 3) := by decide +kernel
theorem dT_grow_93 : decode kT_grow 93 = .ok (.aload_n 0, 1) := by decide +kernel
theorem dT_grow_94 : decode kT_grow 94 = .ok (.invokevirtual 102, 3) := by decide +kernel
theorem dT_grow_97 : decode kT_grow 97 = .ok (.aload_n 0, 1) := by decide +kernel
theorem dT_grow_98 : decode kT_grow 98 = .ok (.iconst 0, 1) := by decide +kernel
theorem dT_grow_99 : decode kT_grow 99 = .ok (.putfield 77, 3) := by decide +kernel
theorem dT_grow_102 : decode kT_grow 102 = .ok (.return_, 1) := by decide +kernel
theorem dT_fell_0 : decode kT_fell 0 = .ok (.aload_n 0, 1) := by decide +kernel
theorem dT_fell_1 : decode kT_fell 1 = .ok (.getfield 21, 3) := by decide +kernel
theorem dT_fell_4 : decode kT_fell 4 = .ok (.iconst 0, 1) := by decide +kernel
theorem dT_fell_5 : decode kT_fell 5 = .ok (.invokevirtual 105, 3) := by decide +kernel
theorem dT_fell_8 : decode kT_fell 8 = .ok (.aload_n 0, 1) := by decide +kernel
theorem dT_fell_9 : decode kT_fell 9 = .ok (.getfield 25, 3) := by decide +kernel
theorem dT_fell_12 : decode kT_fell 12 = .ok (.iconst 0, 1) := by decide +kernel
theorem dT_fell_13 : decode kT_fell 13 = .ok (.invokevirtual 105, 3) := by decide +kernel
theorem dT_fell_16 : decode kT_fell 16 = .ok (.aload_n 0, 1) := by decide +kernel
theorem dT_fell_17 : decode kT_fell 17 = .ok (.getfield 28, 3) := by decide +kernel
theorem dT_fell_20 : decode kT_fell 20 = .ok (.iconst 0, 1) := by decide +kernel
theorem dT_fell_21 : decode kT_fell 21 = .ok (.invokevirtual 105, 3) := by decide +kernel
theorem dT_fell_24 : decode kT_fell 24 = .ok (.aload_n 0, 1) := by decide +kernel
theorem dT_fell_25 : decode kT_fell 25 = .ok (.getfield 31, 3) := by decide +kernel
theorem dT_fell_28 : decode kT_fell 28 = .ok (.iconst 0, 1) := by decide +kernel
theorem dT_fell_29 : decode kT_fell 29 = .ok (.invokevirtual 105, 3) := by decide +kernel
theorem dT_fell_32 : decode kT_fell 32 = .ok (.aload_n 0, 1) := by decide +kernel
theorem dT_fell_33 : decode kT_fell 33 = .ok (.getfield 34, 3) := by decide +kernel
theorem dT_fell_36 : decode kT_fell 36 = .ok (.iconst 0, 1) := by decide +kernel
theorem dT_fell_37 : decode kT_fell 37 = .ok (.invokevirtual 105, 3) := by decide +kernel
theorem dT_fell_40 : decode kT_fell 40 = .ok (.aload_n 0, 1) := by decide +kernel
theorem dT_fell_41 : decode kT_fell 41 = .ok (.getfield 37, 3) := by decide +kernel
theorem dT_fell_44 : decode kT_fell 44 = .ok (.iconst 0, 1) := by decide +kernel
theorem dT_fell_45 : decode kT_fell 45 = .ok (.invokevirtual 105, 3) := by decide +kernel
theorem dT_fell_48 : decode kT_fell 48 = .ok (.aload_n 0, 1) := by decide +kernel
theorem dT_fell_49 : decode kT_fell 49 = .ok (.getfield 43, 3) := by decide +kernel
theorem dT_fell_52 : decode kT_fell 52 = .ok (.iconst 0, 1) := by decide +kernel
theorem dT_fell_53 : decode kT_fell 53 = .ok (.invokevirtual 109, 3) := by decide +kernel
theorem dT_fell_56 : decode kT_fell 56 = .ok (.aload_n 0, 1) := by decide +kernel
theorem dT_fell_57 : decode kT_fell 57 = .ok (.getfield 47, 3) := by decide +kernel
theorem dT_fell_60 : decode kT_fell 60 = .ok (.iconst 0, 1) := by decide +kernel
theorem dT_fell_61 : decode kT_fell 61 = .ok (.invokevirtual 105, 3) := by decide +kernel
theorem dT_fell_64 : decode kT_fell 64 = .ok (.aload_n 0, 1) := by decide +kernel
theorem dT_fell_65 : decode kT_fell 65 = .ok (.getfield 50, 3) := by decide +kernel
theorem dT_fell_68 : decode kT_fell 68 = .ok (.iconst 0, 1) := by decide +kernel
theorem dT_fell_69 : decode kT_fell 69 = .ok (.invokevirtual 109, 3) := by decide +kernel
theorem dT_fell_72 : decode kT_fell 72 = .ok (.aload_n 0, 1) := by decide +kernel
theorem dT_fell_73 : decode kT_fell 73 = .ok (.getfield 53, 3) := by decide +kernel
theorem dT_fell_76 : decode kT_fell 76 = .ok (.iconst 0, 1) := by decide +kernel
theorem dT_fell_77 : decode kT_fell 77 = .ok (.invokevirtual 105, 3) := by decide +kernel
theorem dT_fell_80 : decode kT_fell 80 = .ok (.aload_n 0, 1) := by decide +kernel
theorem dT_fell_81 : decode kT_fell 81 = .ok (.getfield 56, 3) := by decide +kernel
theorem dT_fell_84 : decode kT_fell 84 = .ok (.iconst 0, 1) := by decide +kernel
theorem dT_fell_85 : decode kT_fell 85 = .ok (.invokevirtual 105, 3) := by decide +kernel
theorem dT_fell_88 : decode kT_fell 88 = .ok (.aload_n 0, 1) := by decide +kernel
theorem dT_fell_89 : decode kT_fell 89 = .ok (.getfield 59, 3) := by decide +kernel
theorem dT_fell_92 : decode kT_fell 92 = .ok (.iconst 0, 1) := by decide +kernel
theorem dT_fell_93 : decode kT_fell 93 = .ok (.invokevirtual 105, 3) := by decide +kernel
theorem dT_fell_96 : decode kT_fell 96 = .ok (.aload_n 0, 1) := by decide +kernel
theorem dT_fell_97 : decode kT_fell 97 = .ok (.iconst 0, 1) := by decide +kernel
theorem dT_fell_98 : decode kT_fell 98 = .ok (.putfield 110, 3) := by decide +kernel
theorem dT_fell_101 : decode kT_fell 101 = .ok (.return_, 1) := by decide +kernel
theorem dT_await_0 : decode kT_await 0 = .ok (.aload_n 0, 1) := by decide +kernel
theorem dT_await_1 : decode kT_await 1 = .ok (.getfield 53, 3) := by decide +kernel
theorem dT_await_4 : decode kT_await 4 = .ok (.iload_n 1, 1) := by decide +kernel
theorem dT_await_5 : decode kT_await 5 = .ok (.invokevirtual 114, 3) := by decide +kernel
theorem dT_await_8 : decode kT_await 8 = .ok (.aload_n 0, 1) := by decide +kernel
theorem dT_await_9 : decode kT_await 9 = .ok (.getfield 56, 3) := by decide +kernel
theorem dT_await_12 : decode kT_await 12 = .ok (.iload_n 2, 1) := by decide +kernel
theorem dT_await_13 : decode kT_await 13 = .ok (.invokevirtual 114, 3) := by decide +kernel
theorem dT_await_16 : decode kT_await 16 = .ok (.aload_n 0, 1) := by decide +kernel
theorem dT_await_17 : decode kT_await 17 = .ok (.getfield 59, 3) := by decide +kernel
theorem dT_await_20 : decode kT_await 20 = .ok (.iload_n 3, 1) := by decide +kernel
theorem dT_await_21 : decode kT_await 21 = .ok (.invokevirtual 114, 3) := by decide +kernel
theorem dT_await_24 : decode kT_await 24 = .ok (.return_, 1) := by decide +kernel
theorem dT_plantNext_0 : decode kT_plantNext 0 = .ok (.aload_n 0, 1) := by decide +kernel
theorem dT_plantNext_1 : decode kT_plantNext 1 = .ok (.getfield 53, 3) := by decide +kernel
theorem dT_plantNext_4 : decode kT_plantNext 4 = .ok (.invokevirtual 98, 3) := by decide +kernel
theorem dT_plantNext_7 : decode kT_plantNext 7 = .ok (.iconst 1, 1) := by decide +kernel
theorem dT_plantNext_8 : decode kT_plantNext 8 = .ok (.isub, 1) := by decide +kernel
theorem dT_plantNext_9 : decode kT_plantNext 9 = .ok (.istore_n 1, 1) := by decide +kernel
theorem dT_plantNext_10 : decode kT_plantNext 10 = .ok (.aload_n 0, 1) := by decide +kernel
theorem dT_plantNext_11 : decode kT_plantNext 11 = .ok (.getfield 53, 3) := by decide +kernel
theorem dT_plantNext_14 : decode kT_plantNext 14 = .ok (.iload_n 1, 1) := by decide +kernel
theorem dT_plantNext_15 : decode kT_plantNext 15 = .ok (.invokevirtual 116, 3) := by decide +kernel
theorem dT_plantNext_18 : decode kT_plantNext 18 = .ok (.istore_n 2, 1) := by decide +kernel
theorem dT_plantNext_19 : decode kT_plantNext 19 = .ok (.aload_n 0, 1) := by decide +kernel
theorem dT_plantNext_20 : decode kT_plantNext 20 = .ok (.getfield 56, 3) := by decide +kernel
theorem dT_plantNext_23 : decode kT_plantNext 23 = .ok (.iload_n 1, 1) := by decide +kernel
theorem dT_plantNext_24 : decode kT_plantNext 24 = .ok (.invokevirtual 116, 3) := by decide +kernel
theorem dT_plantNext_27 : decode kT_plantNext 27 = .ok (.istore_n 3, 1) := by decide +kernel
theorem dT_plantNext_28 : decode kT_plantNext 28 = .ok (.aload_n 0, 1) := by decide +kernel
theorem dT_plantNext_29 : decode kT_plantNext 29 = .ok (.getfield 21, 3) := by decide +kernel
theorem dT_plantNext_32 : decode kT_plantNext 32 = .ok (.invokevirtual 98, 3) := by decide +kernel
theorem dT_plantNext_35 : decode kT_plantNext 35 = .ok (.istore 4, 2) := by decide +kernel
theorem dT_plantNext_37 : decode kT_plantNext 37 = .ok (.aload_n 0, 1) := by decide +kernel
theorem dT_plantNext_38 : decode kT_plantNext 38 = .ok (.getfield 59, 3) := by decide +kernel
theorem dT_plantNext_41 : decode kT_plantNext 41 = .ok (.iload_n 1, 1) := by decide +kernel
theorem dT_plantNext_42 : decode kT_plantNext 42 = .ok (.invokevirtual 116, 3) := by decide +kernel
theorem dT_plantNext_45 : decode kT_plantNext 45 = .ok (.iconst 1, 1) := by decide +kernel
theorem dT_plantNext_46 : decode kT_plantNext 46 = .ok (.if_icmp .ne 16, 3) := by decide +kernel
theorem dT_plantNext_49 : decode kT_plantNext 49 = .ok (.aload_n 0, 1) := by decide +kernel
theorem dT_plantNext_50 : decode kT_plantNext 50 = .ok (.getfield 25, 3) := by decide +kernel
theorem dT_plantNext_53 : decode kT_plantNext 53 = .ok (.iload_n 3, 1) := by decide +kernel
theorem dT_plantNext_54 : decode kT_plantNext 54 = .ok (.iload 4, 2) := by decide +kernel
theorem dT_plantNext_56 : decode kT_plantNext 56 = .ok (.invokevirtual 119, 3) := by decide +kernel
theorem dT_plantNext_59 : decode kT_plantNext 59 = .ok (.goto 13, 3) := by decide +kernel
theorem dT_plantNext_62 : decode kT_plantNext 62 = .ok (.aload_n 0, 1) := by decide +kernel
theorem dT_plantNext_63 : decode kT_plantNext 63 = .ok (.getfield 28, 3) := by decide +kernel
theorem dT_plantNext_66 : decode kT_plantNext 66 = .ok (.iload_n 3, 1) := by decide +kernel
theorem dT_plantNext_67 : decode kT_plantNext 67 = .ok (.iload 4, 2) := by decide +kernel
theorem dT_plantNext_69 : decode kT_plantNext 69 = .ok (.invokevirtual 119, 3) := by decide +kernel
theorem dT_plantNext_72 : decode kT_plantNext 72 = .ok (.aload_n 0, 1) := by decide +kernel
theorem dT_plantNext_73 : decode kT_plantNext 73 = .ok (.getfield 53, 3) := by decide +kernel
theorem dT_plantNext_76 : decode kT_plantNext 76 = .ok (.iload_n 1, 1) := by decide +kernel
theorem dT_plantNext_77 : decode kT_plantNext 77 = .ok (.invokevirtual 105, 3) := by decide +kernel
theorem dT_plantNext_80 : decode kT_plantNext 80 = .ok (.aload_n 0, 1) := by decide +kernel
theorem dT_plantNext_81 : decode kT_plantNext 81 = .ok (.getfield 56, 3) := by decide +kernel
theorem dT_plantNext_84 : decode kT_plantNext 84 = .ok (.iload_n 1, 1) := by decide +kernel
theorem dT_plantNext_85 : decode kT_plantNext 85 = .ok (.invokevirtual 105, 3) := by decide +kernel
theorem dT_plantNext_88 : decode kT_plantNext 88 = .ok (.aload_n 0, 1) := by decide +kernel
theorem dT_plantNext_89 : decode kT_plantNext 89 = .ok (.getfield 59, 3) := by decide +kernel
theorem dT_plantNext_92 : decode kT_plantNext 92 = .ok (.iload_n 1, 1) := by decide +kernel
theorem dT_plantNext_93 : decode kT_plantNext 93 = .ok (.invokevirtual 105, 3) := by decide +kernel
theorem dT_plantNext_96 : decode kT_plantNext 96 = .ok (.aload_n 0, 1) := by decide +kernel
theorem dT_plantNext_97 : decode kT_plantNext 97 = .ok (.iload_n 3, 1) := by decide +kernel
theorem dT_plantNext_98 : decode kT_plantNext 98 = .ok (.invokevirtual 123, 3) := by decide +kernel
theorem dT_plantNext_101 : decode kT_plantNext 101 = .ok (.ifCond .eq 16, 3) := by decide +kernel
theorem dT_plantNext_104 : decode kT_plantNext 104 = .ok (.aload_n 0, 1) := by decide +kernel
theorem dT_plantNext_105 : decode kT_plantNext 105 = .ok (.getfield 34, 3) := by decide +kernel
theorem dT_plantNext_108 : decode kT_plantNext 108 = .ok (.iload_n 3, 1) := by decide +kernel
theorem dT_plantNext_109 : decode kT_plantNext 109 = .ok (.invokevirtual 116, 3) := by decide +kernel
theorem dT_plantNext_112 : decode kT_plantNext 112 = .ok (.iconst 1, 1) := by decide +kernel
theorem dT_plantNext_113 : decode kT_plantNext 113 = .ok (.iadd, 1) := by decide +kernel
theorem dT_plantNext_114 : decode kT_plantNext 114 = .ok (.goto 4, 3) := by decide +kernel
theorem dT_plantNext_117 : decode kT_plantNext 117 = .ok (.iconst 0, 1) := by decide +kernel
theorem dT_plantNext_118 : decode kT_plantNext 118 = .ok (.istore 5, 2) := by decide +kernel
theorem dT_plantNext_120 : decode kT_plantNext 120 = .ok (.aload_n 0, 1) := by decide +kernel
theorem dT_plantNext_121 : decode kT_plantNext 121 = .ok (.iload_n 2, 1) := by decide +kernel
theorem dT_plantNext_122 : decode kT_plantNext 122 = .ok (.invokevirtual 126, 3) := by decide +kernel
theorem dT_plantNext_125 : decode kT_plantNext 125 = .ok (.istore 6, 2) := by decide +kernel
theorem dT_plantNext_127 : decode kT_plantNext 127 = .ok (.aload_n 0, 1) := by decide +kernel
theorem dT_plantNext_128 : decode kT_plantNext 128 = .ok (.getfield 21, 3) := by decide +kernel
theorem dT_plantNext_131 : decode kT_plantNext 131 = .ok (.iload 6, 2) := by decide +kernel
theorem dT_plantNext_133 : decode kT_plantNext 133 = .ok (.invokevirtual 114, 3) := by decide +kernel
theorem dT_plantNext_136 : decode kT_plantNext 136 = .ok (.aload_n 0, 1) := by decide +kernel
theorem dT_plantNext_137 : decode kT_plantNext 137 = .ok (.getfield 34, 3) := by decide +kernel
theorem dT_plantNext_140 : decode kT_plantNext 140 = .ok (.iload 5, 2) := by decide +kernel
theorem dT_plantNext_142 : decode kT_plantNext 142 = .ok (.invokevirtual 114, 3) := by decide +kernel
theorem dT_plantNext_145 : decode kT_plantNext 145 = .ok (.aload_n 0, 1) := by decide +kernel
theorem dT_plantNext_146 : decode kT_plantNext 146 = .ok (.getfield 37, 3) := by decide +kernel
theorem dT_plantNext_149 : decode kT_plantNext 149 = .ok (.aload_n 0, 1) := by decide +kernel
theorem dT_plantNext_150 : decode kT_plantNext 150 = .ok (.getfield 43, 3) := by decide +kernel
theorem dT_plantNext_153 : decode kT_plantNext 153 = .ok (.invokevirtual 94, 3) := by decide +kernel
theorem dT_plantNext_156 : decode kT_plantNext 156 = .ok (.invokevirtual 114, 3) := by decide +kernel
theorem dT_plantNext_159 : decode kT_plantNext 159 = .ok (.aload_n 0, 1) := by decide +kernel
theorem dT_plantNext_160 : decode kT_plantNext 160 = .ok (.getfield 25, 3) := by decide +kernel
theorem dT_plantNext_163 : decode kT_plantNext 163 = .ok (.iconst (-1), 1) := by decide +kernel
theorem dT_plantNext_164 : decode kT_plantNext 164 = .ok (.invokevirtual 114, 3) := by decide +kernel
theorem dT_plantNext_167 : decode kT_plantNext 167 = .ok (.aload_n 0, 1) := by decide +kernel
theorem dT_plantNext_168 : decode kT_plantNext 168 = .ok (.getfield 28, 3) := by decide +kernel
theorem dT_plantNext_171 : decode kT_plantNext 171 = .ok (.iconst (-1), 1) := by decide +kernel
theorem dT_plantNext_172 : decode kT_plantNext 172 = .ok (.invokevirtual 114, 3) := by decide +kernel
theorem dT_plantNext_175 : decode kT_plantNext 175 = .ok (.aload_n 0, 1) := by decide +kernel
theorem dT_plantNext_176 : decode kT_plantNext 176 = .ok (.getfield 31, 3) := by decide +kernel
theorem dT_plantNext_179 : decode kT_plantNext 179 = .ok (.iconst 1, 1) := by decide +kernel
theorem dT_plantNext_180 : decode kT_plantNext 180 = .ok (.invokevirtual 114, 3) := by decide +kernel
theorem dT_plantNext_183 : decode kT_plantNext 183 = .ok (.aload_n 0, 1) := by decide +kernel
theorem dT_plantNext_184 : decode kT_plantNext 184 = .ok (.aload_n 0, 1) := by decide +kernel
theorem dT_plantNext_185 : decode kT_plantNext 185 = .ok (.getfield 110, 3) := by decide +kernel
theorem dT_plantNext_188 : decode kT_plantNext 188 = .ok (.iload 5, 2) := by decide +kernel
theorem dT_plantNext_190 : decode kT_plantNext 190 = .ok (.iconst 1, 1) := by decide +kernel
theorem dT_plantNext_191 : decode kT_plantNext 191 = .ok (.iadd, 1) := by decide +kernel
theorem dT_plantNext_192 : decode kT_plantNext 192 = .ok (.invokestatic 129, 3) := by decide +kernel
theorem dT_plantNext_195 : decode kT_plantNext 195 = .ok (.putfield 110, 3) := by decide +kernel
theorem dT_plantNext_198 : decode kT_plantNext 198 = .ok (.aload_n 0, 1) := by decide +kernel
theorem dT_plantNext_199 : decode kT_plantNext 199 = .ok (.iload_n 2, 1) := by decide +kernel
theorem dT_plantNext_200 : decode kT_plantNext 200 = .ok (.iload 6, 2) := by decide +kernel
theorem dT_plantNext_202 : decode kT_plantNext 202 = .ok (.iload 4, 2) := by decide +kernel
theorem dT_plantNext_204 : decode kT_plantNext 204 = .ok (.invokevirtual 135, 3) := by decide +kernel
theorem dT_plantNext_207 : decode kT_plantNext 207 = .ok (.istore 7, 2) := by decide +kernel
theorem dT_plantNext_209 : decode kT_plantNext 209 = .ok (.iload 7, 2) := by decide +kernel
theorem dT_plantNext_211 : decode kT_plantNext 211 = .ok (.iload_n 2, 1) := by decide +kernel
theorem dT_plantNext_212 : decode kT_plantNext 212 = .ok (.if_icmp .le 11, 3) := by decide +kernel
theorem dT_plantNext_215 : decode kT_plantNext 215 = .ok (.aload_n 0, 1) := by decide +kernel
theorem dT_plantNext_216 : decode kT_plantNext 216 = .ok (.iload_n 2, 1) := by decide +kernel
theorem dT_plantNext_217 : decode kT_plantNext 217 = .ok (.iload 4, 2) := by decide +kernel
theorem dT_plantNext_219 : decode kT_plantNext 219 = .ok (.iconst 2, 1) := by decide +kernel
theorem dT_plantNext_220 : decode kT_plantNext 220 = .ok (.invokevirtual 95, 3) := by decide +kernel
theorem dT_plantNext_223 : decode kT_plantNext 223 = .ok (.aload_n 0, 1) := by decide +kernel
theorem dT_plantNext_224 : decode kT_plantNext 224 = .ok (.getfield 50, 3) := by decide +kernel
theorem dT_plantNext_227 : decode kT_plantNext 227 = .ok (.invokevirtual 94, 3) := by decide +kernel
theorem dT_plantNext_230 : decode kT_plantNext 230 = .ok (.iload 7, 2) := by decide +kernel
theorem dT_plantNext_232 : decode kT_plantNext 232 = .ok (.if_icmp .le 12, 3) := by decide +kernel
theorem dT_plantNext_235 : decode kT_plantNext 235 = .ok (.aload_n 0, 1) := by decide +kernel
theorem dT_plantNext_236 : decode kT_plantNext 236 = .ok (.iload 7, 2) := by decide +kernel
theorem dT_plantNext_238 : decode kT_plantNext 238 = .ok (.iload 4, 2) := by decide +kernel
theorem dT_plantNext_240 : decode kT_plantNext 240 = .ok (.iconst 1, 1) := by decide +kernel
theorem dT_plantNext_241 : decode kT_plantNext 241 = .ok (.invokevirtual 95, 3) := by decide +kernel
theorem dT_plantNext_244 : decode kT_plantNext 244 = .ok (.return_, 1) := by decide +kernel
theorem dT_hasNode_0 : decode kT_hasNode 0 = .ok (.iload_n 1, 1) := by decide +kernel
theorem dT_hasNode_1 : decode kT_hasNode 1 = .ok (.ifCond .lt 18, 3) := by decide +kernel
theorem dT_hasNode_4 : decode kT_hasNode 4 = .ok (.iload_n 1, 1) := by decide +kernel
theorem dT_hasNode_5 : decode kT_hasNode 5 = .ok (.aload_n 0, 1) := by decide +kernel
theorem dT_hasNode_6 : decode kT_hasNode 6 = .ok (.getfield 21, 3) := by decide +kernel
theorem dT_hasNode_9 : decode kT_hasNode 9 = .ok (.invokevirtual 98, 3) := by decide +kernel
theorem dT_hasNode_12 : decode kT_hasNode 12 = .ok (.if_icmp .ge 7, 3) := by decide +kernel
theorem dT_hasNode_15 : decode kT_hasNode 15 = .ok (.iconst 1, 1) := by decide +kernel
theorem dT_hasNode_16 : decode kT_hasNode 16 = .ok (.goto 4, 3) := by decide +kernel
theorem dT_hasNode_19 : decode kT_hasNode 19 = .ok (.iconst 0, 1) := by decide +kernel
theorem dT_hasNode_20 : decode kT_hasNode 20 = .ok (.ireturn, 1) := by decide +kernel
theorem dT_bestLine_0 : decode kT_bestLine 0 = .ok (.aload_n 0, 1) := by decide +kernel
theorem dT_bestLine_1 : decode kT_bestLine 1 = .ok (.getfield 50, 3) := by decide +kernel
theorem dT_bestLine_4 : decode kT_bestLine 4 = .ok (.invokevirtual 94, 3) := by decide +kernel
theorem dT_bestLine_7 : decode kT_bestLine 7 = .ok (.istore_n 2, 1) := by decide +kernel
theorem dT_bestLine_8 : decode kT_bestLine 8 = .ok (.iconst (-1), 1) := by decide +kernel
theorem dT_bestLine_9 : decode kT_bestLine 9 = .ok (.istore_n 3, 1) := by decide +kernel
theorem dT_bestLine_10 : decode kT_bestLine 10 = .ok (.iconst 0, 1) := by decide +kernel
theorem dT_bestLine_11 : decode kT_bestLine 11 = .ok (.istore 4, 2) := by decide +kernel
theorem dT_bestLine_13 : decode kT_bestLine 13 = .ok (.iload_n 1, 1) := by decide +kernel
theorem dT_bestLine_14 : decode kT_bestLine 14 = .ok (.istore 5, 2) := by decide +kernel
theorem dT_bestLine_16 : decode kT_bestLine 16 = .ok (.iload 5, 2) := by decide +kernel
theorem dT_bestLine_18 : decode kT_bestLine 18 = .ok (.iload_n 2, 1) := by decide +kernel
theorem dT_bestLine_19 : decode kT_bestLine 19 = .ok (.if_icmp .ge 141, 3) := by decide +kernel
theorem dT_bestLine_22 : decode kT_bestLine 22 = .ok (.iload 5, 2) := by decide +kernel
theorem dT_bestLine_24 : decode kT_bestLine 24 = .ok (.iload_n 1, 1) := by decide +kernel
theorem dT_bestLine_25 : decode kT_bestLine 25 = .ok (.bipush 16, 2) := by decide +kernel
theorem dT_bestLine_27 : decode kT_bestLine 27 = .ok (.iadd, 1) := by decide +kernel
theorem dT_bestLine_28 : decode kT_bestLine 28 = .ok (.if_icmp .ge 132, 3) := by decide +kernel
theorem dT_bestLine_31 : decode kT_bestLine 31 = .ok (.aload_n 0, 1) := by decide +kernel
theorem dT_bestLine_32 : decode kT_bestLine 32 = .ok (.getfield 50, 3) := by decide +kernel
theorem dT_bestLine_35 : decode kT_bestLine 35 = .ok (.iload 5, 2) := by decide +kernel
theorem dT_bestLine_37 : decode kT_bestLine 37 = .ok (.invokevirtual 142, 3) := by decide +kernel
theorem dT_bestLine_40 : decode kT_bestLine 40 = .ok (.istore 6, 2) := by decide +kernel
theorem dT_bestLine_42 : decode kT_bestLine 42 = .ok (.iconst 0, 1) := by decide +kernel
theorem dT_bestLine_43 : decode kT_bestLine 43 = .ok (.istore 7, 2) := by decide +kernel
theorem dT_bestLine_45 : decode kT_bestLine 45 = .ok (.iconst 0, 1) := by decide +kernel
theorem dT_bestLine_46 : decode kT_bestLine 46 = .ok (.istore 8, 2) := by decide +kernel
theorem dT_bestLine_48 : decode kT_bestLine 48 = .ok (.iload_n 1, 1) := by decide +kernel
theorem dT_bestLine_49 : decode kT_bestLine 49 = .ok (.istore 9, 2) := by decide +kernel
theorem dT_bestLine_51 : decode kT_bestLine 51 = .ok (.iload 9, 2) := by decide +kernel
theorem dT_bestLine_53 : decode kT_bestLine 53 = .ok (.iload_n 2, 1) := by decide +kernel
theorem dT_bestLine_54 : decode kT_bestLine 54 = .ok (.if_icmp .ge 69, 3) := by decide +kernel
theorem dT_bestLine_57 : decode kT_bestLine 57 = .ok (.aload_n 0, 1) := by decide +kernel
theorem dT_bestLine_58 : decode kT_bestLine 58 = .ok (.iload 6, 2) := by decide +kernel
theorem dT_bestLine_60 : decode kT_bestLine 60 = .ok (.iload 9, 2) := by decide +kernel
theorem dT_bestLine_62 : decode kT_bestLine 62 = .ok (.invokevirtual 145, 3) := by decide +kernel
theorem dT_bestLine_65 : decode kT_bestLine 65 = .ok (.istore 10, 2) := by decide +kernel
theorem dT_bestLine_67 : decode kT_bestLine 67 = .ok (.iload 7, 2) := by decide +kernel
theorem dT_bestLine_69 : decode kT_bestLine 69 = .ok (.iload 10, 2) := by decide +kernel
theorem dT_bestLine_71 : decode kT_bestLine 71 = .ok (.iconst 3, 1) := by decide +kernel
theorem dT_bestLine_72 : decode kT_bestLine 72 = .ok (.if_icmp .ne 7, 3) := by decide +kernel
theorem dT_bestLine_75 : decode kT_bestLine 75 = .ok (.iconst 1, 1) := by decide +kernel
theorem dT_bestLine_76 : decode kT_bestLine 76 = .ok (.goto 4, 3) := by decide +kernel
theorem dT_bestLine_79 : decode kT_bestLine 79 = .ok (.iconst 0, 1) := by decide +kernel
theorem dT_bestLine_80 : decode kT_bestLine 80 = .ok (.iadd, 1) := by decide +kernel
theorem dT_bestLine_81 : decode kT_bestLine 81 = .ok (.istore 7, 2) := by decide +kernel
theorem dT_bestLine_83 : decode kT_bestLine 83 = .ok (.iload 8, 2) := by decide +kernel
theorem dT_bestLine_85 : decode kT_bestLine 85 = .ok (.iload 10, 2) := by decide +kernel
theorem dT_bestLine_87 : decode kT_bestLine 87 = .ok (.iconst 1, 1) := by decide +kernel
theorem dT_bestLine_88 : decode kT_bestLine 88 = .ok (.iand, 1) := by decide +kernel
theorem dT_bestLine_89 : decode kT_bestLine 89 = .ok (.ifCond .eq 7, 3) := by decide +kernel
theorem dT_bestLine_92 : decode kT_bestLine 92 = .ok (.iconst 1, 1) := by decide +kernel
theorem dT_bestLine_93 : decode kT_bestLine 93 = .ok (.goto 4, 3) := by decide +kernel
theorem dT_bestLine_96 : decode kT_bestLine 96 = .ok (.iconst 0, 1) := by decide +kernel
theorem dT_bestLine_97 : decode kT_bestLine 97 = .ok (.iadd, 1) := by decide +kernel
theorem dT_bestLine_98 : decode kT_bestLine 98 = .ok (.istore 8, 2) := by decide +kernel
theorem dT_bestLine_100 : decode kT_bestLine 100 = .ok (.iload 8, 2) := by decide +kernel
theorem dT_bestLine_102 : decode kT_bestLine 102 = .ok (.iload 10, 2) := by decide +kernel
theorem dT_bestLine_104 : decode kT_bestLine 104 = .ok (.iconst 2, 1) := by decide +kernel
theorem dT_bestLine_105 : decode kT_bestLine 105 = .ok (.iand, 1) := by decide +kernel
theorem dT_bestLine_106 : decode kT_bestLine 106 = .ok (.ifCond .eq 7, 3) := by decide +kernel
theorem dT_bestLine_109 : decode kT_bestLine 109 = .ok (.iconst 1, 1) := by decide +kernel
theorem dT_bestLine_110 : decode kT_bestLine 110 = .ok (.goto 4, 3) := by decide +kernel
theorem dT_bestLine_113 : decode kT_bestLine 113 = .ok (.iconst 0, 1) := by decide +kernel
theorem dT_bestLine_114 : decode kT_bestLine 114 = .ok (.isub, 1) := by decide +kernel
theorem dT_bestLine_115 : decode kT_bestLine 115 = .ok (.istore 8, 2) := by decide +kernel
theorem dT_bestLine_117 : decode kT_bestLine 117 = .ok (.iinc 9 1, 3) := by decide +kernel
theorem dT_bestLine_120 : decode kT_bestLine 120 = .ok (.goto (-69), 3) := by decide +kernel
theorem dT_bestLine_123 : decode kT_bestLine 123 = .ok (.iconst 4, 1) := by decide +kernel
theorem dT_bestLine_124 : decode kT_bestLine 124 = .ok (.iload 7, 2) := by decide +kernel
theorem dT_bestLine_126 : decode kT_bestLine 126 = .ok (.imul, 1) := by decide +kernel
theorem dT_bestLine_127 : decode kT_bestLine 127 = .ok (.iload 8, 2) := by decide +kernel
theorem dT_bestLine_129 : decode kT_bestLine 129 = .ok (.invokestatic 148, 3) := by decide +kernel
theorem dT_bestLine_132 : decode kT_bestLine 132 = .ok (.iadd, 1) := by decide +kernel
theorem dT_bestLine_133 : decode kT_bestLine 133 = .ok (.istore 9, 2) := by decide +kernel
theorem dT_bestLine_135 : decode kT_bestLine 135 = .ok (.iload_n 3, 1) := by decide +kernel
theorem dT_bestLine_136 : decode kT_bestLine 136 = .ok (.iconst (-1), 1) := by decide +kernel
theorem dT_bestLine_137 : decode kT_bestLine 137 = .ok (.if_icmp .eq 10, 3) := by decide +kernel
theorem dT_bestLine_140 : decode kT_bestLine 140 = .ok (.iload 9, 2) := by decide +kernel
theorem dT_bestLine_142 : decode kT_bestLine 142 = .ok (.iload 4, 2) := by decide +kernel
theorem dT_bestLine_144 : decode kT_bestLine 144 = .ok (.if_icmp .ge 10, 3) := by decide +kernel
theorem dT_bestLine_147 : decode kT_bestLine 147 = .ok (.iload 9, 2) := by decide +kernel
theorem dT_bestLine_149 : decode kT_bestLine 149 = .ok (.istore 4, 2) := by decide +kernel
theorem dT_bestLine_151 : decode kT_bestLine 151 = .ok (.iload 6, 2) := by decide +kernel
theorem dT_bestLine_153 : decode kT_bestLine 153 = .ok (.istore_n 3, 1) := by decide +kernel
theorem dT_bestLine_154 : decode kT_bestLine 154 = .ok (.iinc 5 1, 3) := by decide +kernel
theorem dT_bestLine_157 : decode kT_bestLine 157 = .ok (.goto (-141), 3) := by decide +kernel
theorem dT_bestLine_160 : decode kT_bestLine 160 = .ok (.iload_n 3, 1) := by decide +kernel
theorem dT_bestLine_161 : decode kT_bestLine 161 = .ok (.ireturn, 1) := by decide +kernel
theorem dT_whereLies_0 : decode kT_whereLies 0 = .ok (.aload_n 0, 1) := by decide +kernel
theorem dT_whereLies_1 : decode kT_whereLies 1 = .ok (.getfield 50, 3) := by decide +kernel
theorem dT_whereLies_4 : decode kT_whereLies 4 = .ok (.iload_n 2, 1) := by decide +kernel
theorem dT_whereLies_5 : decode kT_whereLies 5 = .ok (.invokevirtual 142, 3) := by decide +kernel
theorem dT_whereLies_8 : decode kT_whereLies 8 = .ok (.istore_n 3, 1) := by decide +kernel
theorem dT_whereLies_9 : decode kT_whereLies 9 = .ok (.aload_n 0, 1) := by decide +kernel
theorem dT_whereLies_10 : decode kT_whereLies 10 = .ok (.iload_n 1, 1) := by decide +kernel
theorem dT_whereLies_11 : decode kT_whereLies 11 = .ok (.iload_n 3, 1) := by decide +kernel
theorem dT_whereLies_12 : decode kT_whereLies 12 = .ok (.aload_n 0, 1) := by decide +kernel
theorem dT_whereLies_13 : decode kT_whereLies 13 = .ok (.getfield 50, 3) := by decide +kernel
theorem dT_whereLies_16 : decode kT_whereLies 16 = .ok (.iload_n 2, 1) := by decide +kernel
theorem dT_whereLies_17 : decode kT_whereLies 17 = .ok (.invokevirtual 151, 3) := by decide +kernel
theorem dT_whereLies_20 : decode kT_whereLies 20 = .ok (.iconst 0, 1) := by decide +kernel
theorem dT_whereLies_21 : decode kT_whereLies 21 = .ok (.invokevirtual 157, 3) := by decide +kernel
theorem dT_whereLies_24 : decode kT_whereLies 24 = .ok (.aload_n 0, 1) := by decide +kernel
theorem dT_whereLies_25 : decode kT_whereLies 25 = .ok (.iload_n 1, 1) := by decide +kernel
theorem dT_whereLies_26 : decode kT_whereLies 26 = .ok (.iload_n 3, 1) := by decide +kernel
theorem dT_whereLies_27 : decode kT_whereLies 27 = .ok (.aload_n 0, 1) := by decide +kernel
theorem dT_whereLies_28 : decode kT_whereLies 28 = .ok (.getfield 50, 3) := by decide +kernel
theorem dT_whereLies_31 : decode kT_whereLies 31 = .ok (.iload_n 2, 1) := by decide +kernel
theorem dT_whereLies_32 : decode kT_whereLies 32 = .ok (.invokevirtual 154, 3) := by decide +kernel
theorem dT_whereLies_35 : decode kT_whereLies 35 = .ok (.iconst 1, 1) := by decide +kernel
theorem dT_whereLies_36 : decode kT_whereLies 36 = .ok (.invokevirtual 157, 3) := by decide +kernel
theorem dT_whereLies_39 : decode kT_whereLies 39 = .ok (.ior, 1) := by decide +kernel
theorem dT_whereLies_40 : decode kT_whereLies 40 = .ok (.ireturn, 1) := by decide +kernel
theorem dT_sideOfEnd_0 : decode kT_sideOfEnd 0 = .ok (.aload_n 0, 1) := by decide +kernel
theorem dT_sideOfEnd_1 : decode kT_sideOfEnd 1 = .ok (.getfield 12, 3) := by decide +kernel
theorem dT_sideOfEnd_4 : decode kT_sideOfEnd 4 = .ok (.iload_n 1, 1) := by decide +kernel
theorem dT_sideOfEnd_5 : decode kT_sideOfEnd 5 = .ok (.invokevirtual 65, 3) := by decide +kernel
theorem dT_sideOfEnd_8 : decode kT_sideOfEnd 8 = .ok (.astore 5, 2) := by decide +kernel
theorem dT_sideOfEnd_10 : decode kT_sideOfEnd 10 = .ok (.aload_n 0, 1) := by decide +kernel
theorem dT_sideOfEnd_11 : decode kT_sideOfEnd 11 = .ok (.getfield 12, 3) := by decide +kernel
theorem dT_sideOfEnd_14 : decode kT_sideOfEnd 14 = .ok (.iload_n 2, 1) := by decide +kernel
theorem dT_sideOfEnd_15 : decode kT_sideOfEnd 15 = .ok (.invokevirtual 65, 3) := by decide +kernel
theorem dT_sideOfEnd_18 : decode kT_sideOfEnd 18 = .ok (.astore 6, 2) := by decide +kernel
theorem dT_sideOfEnd_20 : decode kT_sideOfEnd 20 = .ok (.aload 5, 2) := by decide +kernel
theorem dT_sideOfEnd_22 : decode kT_sideOfEnd 22 = .ok (.ifnull 8, 3) := by decide +kernel
theorem dT_sideOfEnd_25 : decode kT_sideOfEnd 25 = .ok (.aload 6, 2) := by decide +kernel
theorem dT_sideOfEnd_27 : decode kT_sideOfEnd 27 = .ok (.ifnonnull 5, 3) := by decide +kernel
theorem dT_sideOfEnd_30 : decode kT_sideOfEnd 30 = .ok (.iconst 0, 1) := by decide +kernel
theorem dT_sideOfEnd_31 : decode kT_sideOfEnd 31 = .ok (.ireturn, 1) := by decide +kernel
theorem dT_sideOfEnd_32 : decode kT_sideOfEnd 32 = .ok (.aload 5, 2) := by decide +kernel
theorem dT_sideOfEnd_34 : decode kT_sideOfEnd 34 = .ok (.aload 6, 2) := by decide +kernel
theorem dT_sideOfEnd_36 : decode kT_sideOfEnd 36 = .ok (.getfield 164, 3) := by decide +kernel
theorem dT_sideOfEnd_39 : decode kT_sideOfEnd 39 = .ok (.aload 6, 2) := by decide +kernel
theorem dT_sideOfEnd_41 : decode kT_sideOfEnd 41 = .ok (.getfield 169, 3) := by decide +kernel
theorem dT_sideOfEnd_44 : decode kT_sideOfEnd 44 = .ok (.invokevirtual 172, 3) := by decide +kernel
theorem dT_sideOfEnd_47 : decode kT_sideOfEnd 47 = .ok (.lstore 7, 2) := by decide +kernel
theorem dT_sideOfEnd_49 : decode kT_sideOfEnd 49 = .ok (.aload 5, 2) := by decide +kernel
theorem dT_sideOfEnd_51 : decode kT_sideOfEnd 51 = .ok (.aload 6, 2) := by decide +kernel
theorem dT_sideOfEnd_53 : decode kT_sideOfEnd 53 = .ok (.getfield 176, 3) := by decide +kernel
theorem dT_sideOfEnd_56 : decode kT_sideOfEnd 56 = .ok (.aload 6, 2) := by decide +kernel
theorem dT_sideOfEnd_58 : decode kT_sideOfEnd 58 = .ok (.getfield 179, 3) := by decide +kernel
theorem dT_sideOfEnd_61 : decode kT_sideOfEnd 61 = .ok (.invokevirtual 172, 3) := by decide +kernel
theorem dT_sideOfEnd_64 : decode kT_sideOfEnd 64 = .ok (.lstore 9, 2) := by decide +kernel
theorem dT_sideOfEnd_66 : decode kT_sideOfEnd 66 = .ok (.aload_n 0, 1) := by decide +kernel
theorem dT_sideOfEnd_67 : decode kT_sideOfEnd 67 = .ok (.getfield 12, 3) := by decide +kernel
theorem dT_sideOfEnd_70 : decode kT_sideOfEnd 70 = .ok (.iload_n 3, 1) := by decide +kernel
theorem dT_sideOfEnd_71 : decode kT_sideOfEnd 71 = .ok (.invokevirtual 65, 3) := by decide +kernel
theorem dT_sideOfEnd_74 : decode kT_sideOfEnd 74 = .ok (.astore 11, 2) := by decide +kernel
theorem dT_sideOfEnd_76 : decode kT_sideOfEnd 76 = .ok (.aload 11, 2) := by decide +kernel
theorem dT_sideOfEnd_78 : decode kT_sideOfEnd 78 = .ok (.ifnonnull 19, 3) := by decide +kernel
theorem dT_sideOfEnd_81 : decode kT_sideOfEnd 81 = .ok (.iload 4, 2) := by decide +kernel
theorem dT_sideOfEnd_83 : decode kT_sideOfEnd 83 = .ok (.ifCond .eq 8, 3) := by decide +kernel
theorem dT_sideOfEnd_86 : decode kT_sideOfEnd 86 = .ok (.lload 9, 2) := by decide +kernel
theorem dT_sideOfEnd_88 : decode kT_sideOfEnd 88 = .ok (.goto 5, 3) := by decide +kernel
theorem dT_sideOfEnd_91 : decode kT_sideOfEnd 91 = .ok (.lload 7, 2) := by decide +kernel
theorem dT_sideOfEnd_93 : decode kT_sideOfEnd 93 = .ok (.invokestatic 182, 3) := by decide +kernel
theorem dT_sideOfEnd_96 : decode kT_sideOfEnd 96 = .ok (.ireturn, 1) := by decide +kernel
theorem dT_sideOfEnd_97 : decode kT_sideOfEnd 97 = .ok (.lload 7, 2) := by decide +kernel
theorem dT_sideOfEnd_99 : decode kT_sideOfEnd 99 = .ok (.lload 9, 2) := by decide +kernel
theorem dT_sideOfEnd_101 : decode kT_sideOfEnd 101 = .ok (.aload 11, 2) := by decide +kernel
theorem dT_sideOfEnd_103 : decode kT_sideOfEnd 103 = .ok (.aload 6, 2) := by decide +kernel
theorem dT_sideOfEnd_105 : decode kT_sideOfEnd 105 = .ok (.getfield 164, 3) := by decide +kernel
theorem dT_sideOfEnd_108 : decode kT_sideOfEnd 108 = .ok (.aload 6, 2) := by decide +kernel
theorem dT_sideOfEnd_110 : decode kT_sideOfEnd 110 = .ok (.getfield 169, 3) := by decide +kernel
theorem dT_sideOfEnd_113 : decode kT_sideOfEnd 113 = .ok (.invokevirtual 172, 3) := by decide +kernel
theorem dT_sideOfEnd_116 : decode kT_sideOfEnd 116 = .ok (.invokestatic 186, 3) := by decide +kernel
theorem dT_sideOfEnd_119 : decode kT_sideOfEnd 119 = .ok (.aload 11, 2) := by decide +kernel
theorem dT_sideOfEnd_121 : decode kT_sideOfEnd 121 = .ok (.aload 6, 2) := by decide +kernel
theorem dT_sideOfEnd_123 : decode kT_sideOfEnd 123 = .ok (.getfield 176, 3) := by decide +kernel
theorem dT_sideOfEnd_126 : decode kT_sideOfEnd 126 = .ok (.aload 6, 2) := by decide +kernel
theorem dT_sideOfEnd_128 : decode kT_sideOfEnd 128 = .ok (.getfield 179, 3) := by decide +kernel
theorem dT_sideOfEnd_131 : decode kT_sideOfEnd 131 = .ok (.invokevirtual 172, 3) := by decide +kernel
theorem dT_sideOfEnd_134 : decode kT_sideOfEnd 134 = .ok (.invokestatic 186, 3) := by decide +kernel
theorem dT_sideOfEnd_137 : decode kT_sideOfEnd 137 = .ok (.invokestatic 189, 3) := by decide +kernel
theorem dT_sideOfEnd_140 : decode kT_sideOfEnd 140 = .ok (.ireturn, 1) := by decide +kernel
theorem dT_sideOf_0 : decode kT_sideOf 0 = .ok (.lload_n 0, 1) := by decide +kernel
theorem dT_sideOf_1 : decode kT_sideOf 1 = .ok (.lconst 0, 1) := by decide +kernel
theorem dT_sideOf_2 : decode kT_sideOf 2 = .ok (.lcmp, 1) := by decide +kernel
theorem dT_sideOf_3 : decode kT_sideOf 3 = .ok (.ifCond .le 7, 3) := by decide +kernel
theorem dT_sideOf_6 : decode kT_sideOf 6 = .ok (.iconst 1, 1) := by decide +kernel
theorem dT_sideOf_7 : decode kT_sideOf 7 = .ok (.goto 14, 3) := by decide +kernel
theorem dT_sideOf_10 : decode kT_sideOf 10 = .ok (.lload_n 0, 1) := by decide +kernel
theorem dT_sideOf_11 : decode kT_sideOf 11 = .ok (.lconst 0, 1) := by decide +kernel
theorem dT_sideOf_12 : decode kT_sideOf 12 = .ok (.lcmp, 1) := by decide +kernel
theorem dT_sideOf_13 : decode kT_sideOf 13 = .ok (.ifCond .ge 7, 3) := by decide +kernel
theorem dT_sideOf_16 : decode kT_sideOf 16 = .ok (.iconst 2, 1) := by decide +kernel
theorem dT_sideOf_17 : decode kT_sideOf 17 = .ok (.goto 4, 3) := by decide +kernel
theorem dT_sideOf_20 : decode kT_sideOf 20 = .ok (.iconst 0, 1) := by decide +kernel
theorem dT_sideOf_21 : decode kT_sideOf 21 = .ok (.ireturn, 1) := by decide +kernel
theorem dT_sideBetween_0 : decode kT_sideBetween 0 = .ok (.lload_n 0, 1) := by decide +kernel
theorem dT_sideBetween_1 : decode kT_sideBetween 1 = .ok (.lconst 0, 1) := by decide +kernel
theorem dT_sideBetween_2 : decode kT_sideBetween 2 = .ok (.lcmp, 1) := by decide +kernel
theorem dT_sideBetween_3 : decode kT_sideBetween 3 = .ok (.ifCond .lt 27, 3) := by decide +kernel
theorem dT_sideBetween_6 : decode kT_sideBetween 6 = .ok (.lload_n 2, 1) := by decide +kernel
theorem dT_sideBetween_7 : decode kT_sideBetween 7 = .ok (.lconst 0, 1) := by decide +kernel
theorem dT_sideBetween_8 : decode kT_sideBetween 8 = .ok (.lcmp, 1) := by decide +kernel
theorem dT_sideBetween_9 : decode kT_sideBetween 9 = .ok (.ifCond .lt 21, 3) := by decide +kernel
theorem dT_sideBetween_12 : decode kT_sideBetween 12 = .ok (.lload_n 0, 1) := by decide +kernel
theorem dT_sideBetween_13 : decode kT_sideBetween 13 = .ok (.lconst 0, 1) := by decide +kernel
theorem dT_sideBetween_14 : decode kT_sideBetween 14 = .ok (.lcmp, 1) := by decide +kernel
theorem dT_sideBetween_15 : decode kT_sideBetween 15 = .ok (.ifCond .gt 9, 3) := by decide +kernel
theorem dT_sideBetween_18 : decode kT_sideBetween 18 = .ok (.lload_n 2, 1) := by decide +kernel
theorem dT_sideBetween_19 : decode kT_sideBetween 19 = .ok (.lconst 0, 1) := by decide +kernel
theorem dT_sideBetween_20 : decode kT_sideBetween 20 = .ok (.lcmp, 1) := by decide +kernel
theorem dT_sideBetween_21 : decode kT_sideBetween 21 = .ok (.ifCond .le 7, 3) := by decide +kernel
theorem dT_sideBetween_24 : decode kT_sideBetween 24 = .ok (.iconst 1, 1) := by decide +kernel
theorem dT_sideBetween_25 : decode kT_sideBetween 25 = .ok (.goto 4, 3) := by decide +kernel
theorem dT_sideBetween_28 : decode kT_sideBetween 28 = .ok (.iconst 0, 1) := by decide +kernel
theorem dT_sideBetween_29 : decode kT_sideBetween 29 = .ok (.ireturn, 1) := by decide +kernel
theorem dT_sideBetween_30 : decode kT_sideBetween 30 = .ok (.lload_n 0, 1) := by decide +kernel
theorem dT_sideBetween_31 : decode kT_sideBetween 31 = .ok (.lconst 0, 1) := by decide +kernel
theorem dT_sideBetween_32 : decode kT_sideBetween 32 = .ok (.lcmp, 1) := by decide +kernel
theorem dT_sideBetween_33 : decode kT_sideBetween 33 = .ok (.ifCond .gt 11, 3) := by decide +kernel
theorem dT_sideBetween_36 : decode kT_sideBetween 36 = .ok (.lload_n 2, 1) := by decide +kernel
theorem dT_sideBetween_37 : decode kT_sideBetween 37 = .ok (.lconst 0, 1) := by decide +kernel
theorem dT_sideBetween_38 : decode kT_sideBetween 38 = .ok (.lcmp, 1) := by decide +kernel
theorem dT_sideBetween_39 : decode kT_sideBetween 39 = .ok (.ifCond .gt 5, 3) := by decide +kernel
theorem dT_sideBetween_42 : decode kT_sideBetween 42 = .ok (.iconst 2, 1) := by decide +kernel
theorem dT_sideBetween_43 : decode kT_sideBetween 43 = .ok (.ireturn, 1) := by decide +kernel
theorem dT_sideBetween_44 : decode kT_sideBetween 44 = .ok (.ldc2_w 193, 3) := by decide +kernel
theorem dT_sideBetween_47 : decode kT_sideBetween 47 = .ok (.lstore 8, 2) := by decide +kernel
theorem dT_sideBetween_49 : decode kT_sideBetween 49 = .ok (.lload_n 0, 1) := by decide +kernel
theorem dT_sideBetween_50 : decode kT_sideBetween 50 = .ok (.invokestatic 186, 3) := by decide +kernel
theorem dT_sideBetween_53 : decode kT_sideBetween 53 = .ok (.lload 6, 2) := by decide +kernel
theorem dT_sideBetween_55 : decode kT_sideBetween 55 = .ok (.lmul, 1) := by decide +kernel
theorem dT_sideBetween_56 : decode kT_sideBetween 56 = .ok (.lload 8, 2) := by decide +kernel
theorem dT_sideBetween_58 : decode kT_sideBetween 58 = .ok (.lxor, 1) := by decide +kernel
theorem dT_sideBetween_59 : decode kT_sideBetween 59 = .ok (.lstore 10, 2) := by decide +kernel
theorem dT_sideBetween_61 : decode kT_sideBetween 61 = .ok (.lload_n 2, 1) := by decide +kernel
theorem dT_sideBetween_62 : decode kT_sideBetween 62 = .ok (.invokestatic 186, 3) := by decide +kernel
theorem dT_sideBetween_65 : decode kT_sideBetween 65 = .ok (.lload 4, 2) := by decide +kernel
theorem dT_sideBetween_67 : decode kT_sideBetween 67 = .ok (.lmul, 1) := by decide +kernel
theorem dT_sideBetween_68 : decode kT_sideBetween 68 = .ok (.lload 8, 2) := by decide +kernel
theorem dT_sideBetween_70 : decode kT_sideBetween 70 = .ok (.lxor, 1) := by decide +kernel
theorem dT_sideBetween_71 : decode kT_sideBetween 71 = .ok (.lstore 12, 2) := by decide +kernel
theorem dT_sideBetween_73 : decode kT_sideBetween 73 = .ok (.lload 10, 2) := by decide +kernel
theorem dT_sideBetween_75 : decode kT_sideBetween 75 = .ok (.lload 12, 2) := by decide +kernel
theorem dT_sideBetween_77 : decode kT_sideBetween 77 = .ok (.lcmp, 1) := by decide +kernel
theorem dT_sideBetween_78 : decode kT_sideBetween 78 = .ok (.ifCond .ne 5, 3) := by decide +kernel
theorem dT_sideBetween_81 : decode kT_sideBetween 81 = .ok (.iconst 0, 1) := by decide +kernel
theorem dT_sideBetween_82 : decode kT_sideBetween 82 = .ok (.ireturn, 1) := by decide +kernel
theorem dT_sideBetween_83 : decode kT_sideBetween 83 = .ok (.lload_n 0, 1) := by decide +kernel
theorem dT_sideBetween_84 : decode kT_sideBetween 84 = .ok (.lconst 0, 1) := by decide +kernel
theorem dT_sideBetween_85 : decode kT_sideBetween 85 = .ok (.lcmp, 1) := by decide +kernel
theorem dT_sideBetween_86 : decode kT_sideBetween 86 = .ok (.ifCond .le 7, 3) := by decide +kernel
theorem dT_sideBetween_89 : decode kT_sideBetween 89 = .ok (.iconst 1, 1) := by decide +kernel
theorem dT_sideBetween_90 : decode kT_sideBetween 90 = .ok (.goto 4, 3) := by decide +kernel
theorem dT_sideBetween_93 : decode kT_sideBetween 93 = .ok (.iconst 0, 1) := by decide +kernel
theorem dT_sideBetween_94 : decode kT_sideBetween 94 = .ok (.lload 10, 2) := by decide +kernel
theorem dT_sideBetween_96 : decode kT_sideBetween 96 = .ok (.lload 12, 2) := by decide +kernel
theorem dT_sideBetween_98 : decode kT_sideBetween 98 = .ok (.lcmp, 1) := by decide +kernel
theorem dT_sideBetween_99 : decode kT_sideBetween 99 = .ok (.ifCond .le 7, 3) := by decide +kernel
theorem dT_sideBetween_102 : decode kT_sideBetween 102 = .ok (.iconst 1, 1) := by decide +kernel
theorem dT_sideBetween_103 : decode kT_sideBetween 103 = .ok (.goto 4, 3) := by decide +kernel
theorem dT_sideBetween_106 : decode kT_sideBetween 106 = .ok (.iconst 0, 1) := by decide +kernel
theorem dT_sideBetween_107 : decode kT_sideBetween 107 = .ok (.if_icmp .ne 7, 3) := by decide +kernel
theorem dT_sideBetween_110 : decode kT_sideBetween 110 = .ok (.iconst 1, 1) := by decide +kernel
theorem dT_sideBetween_111 : decode kT_sideBetween 111 = .ok (.goto 4, 3) := by decide +kernel
theorem dT_sideBetween_114 : decode kT_sideBetween 114 = .ok (.iconst 2, 1) := by decide +kernel
theorem dT_sideBetween_115 : decode kT_sideBetween 115 = .ok (.ireturn, 1) := by decide +kernel
theorem dT_divide_0 : decode kT_divide 0 = .ok (.aload_n 0, 1) := by decide +kernel
theorem dT_divide_1 : decode kT_divide 1 = .ok (.getfield 50, 3) := by decide +kernel
theorem dT_divide_4 : decode kT_divide 4 = .ok (.invokevirtual 94, 3) := by decide +kernel
theorem dT_divide_7 : decode kT_divide 7 = .ok (.istore 4, 2) := by decide +kernel
theorem dT_divide_9 : decode kT_divide 9 = .ok (.iload_n 1, 1) := by decide +kernel
theorem dT_divide_10 : decode kT_divide 10 = .ok (.istore 5, 2) := by decide +kernel
theorem dT_divide_12 : decode kT_divide 12 = .ok (.aload_n 0, 1) := by decide +kernel
theorem dT_divide_13 : decode kT_divide 13 = .ok (.getfield 62, 3) := by decide +kernel
theorem dT_divide_16 : decode kT_divide 16 = .ok (.iconst 0, 1) := by decide +kernel
theorem dT_divide_17 : decode kT_divide 17 = .ok (.invokevirtual 109, 3) := by decide +kernel
theorem dT_divide_20 : decode kT_divide 20 = .ok (.iload_n 1, 1) := by decide +kernel
theorem dT_divide_21 : decode kT_divide 21 = .ok (.istore 6, 2) := by decide +kernel
theorem dT_divide_23 : decode kT_divide 23 = .ok (.iload 6, 2) := by decide +kernel
theorem dT_divide_25 : decode kT_divide 25 = .ok (.iload 4, 2) := by decide +kernel
theorem dT_divide_27 : decode kT_divide 27 = .ok (.if_icmp .ge 210, 3) := by decide +kernel
theorem dT_divide_30 : decode kT_divide 30 = .ok (.aload_n 0, 1) := by decide +kernel
theorem dT_divide_31 : decode kT_divide 31 = .ok (.getfield 50, 3) := by decide +kernel
theorem dT_divide_34 : decode kT_divide 34 = .ok (.iload 6, 2) := by decide +kernel
theorem dT_divide_36 : decode kT_divide 36 = .ok (.invokevirtual 142, 3) := by decide +kernel
theorem dT_divide_39 : decode kT_divide 39 = .ok (.istore 7, 2) := by decide +kernel
theorem dT_divide_41 : decode kT_divide 41 = .ok (.aload_n 0, 1) := by decide +kernel
theorem dT_divide_42 : decode kT_divide 42 = .ok (.getfield 50, 3) := by decide +kernel
theorem dT_divide_45 : decode kT_divide 45 = .ok (.iload 6, 2) := by decide +kernel
theorem dT_divide_47 : decode kT_divide 47 = .ok (.invokevirtual 151, 3) := by decide +kernel
theorem dT_divide_50 : decode kT_divide 50 = .ok (.istore 8, 2) := by decide +kernel
theorem dT_divide_52 : decode kT_divide 52 = .ok (.aload_n 0, 1) := by decide +kernel
theorem dT_divide_53 : decode kT_divide 53 = .ok (.getfield 50, 3) := by decide +kernel
theorem dT_divide_56 : decode kT_divide 56 = .ok (.iload 6, 2) := by decide +kernel
theorem dT_divide_58 : decode kT_divide 58 = .ok (.invokevirtual 154, 3) := by decide +kernel
theorem dT_divide_61 : decode kT_divide 61 = .ok (.istore 9, 2) := by decide +kernel
theorem dT_divide_63 : decode kT_divide 63 = .ok (.aload_n 0, 1) := by decide +kernel
theorem dT_divide_64 : decode kT_divide 64 = .ok (.iload_n 2, 1) := by decide +kernel
theorem dT_divide_65 : decode kT_divide 65 = .ok (.iload 6, 2) := by decide +kernel
theorem dT_divide_67 : decode kT_divide 67 = .ok (.invokevirtual 145, 3) := by decide +kernel
theorem dT_divide_70 : decode kT_divide 70 = .ok (.istore 10, 2) := by decide +kernel
theorem dT_divide_72 : decode kT_divide 72 = .ok (.iload 10, 2) := by decide +kernel
theorem dT_divide_74 : decode kT_divide 74 = .ok (.ifCond .ne 27, 3) := by decide +kernel
theorem dT_divide_77 : decode kT_divide 77 = .ok (.aload_n 0, 1) := by decide +kernel
theorem dT_divide_78 : decode kT_divide 78 = .ok (.getfield 43, 3) := by decide +kernel
theorem dT_divide_81 : decode kT_divide 81 = .ok (.iload 7, 2) := by decide +kernel
theorem dT_divide_83 : decode kT_divide 83 = .ok (.iload 8, 2) := by decide +kernel
theorem dT_divide_85 : decode kT_divide 85 = .ok (.iload 9, 2) := by decide +kernel
theorem dT_divide_87 : decode kT_divide 87 = .ok (.invokevirtual 91, 3) := by decide +kernel
theorem dT_divide_90 : decode kT_divide 90 = .ok (.aload_n 0, 1) := by decide +kernel
theorem dT_divide_91 : decode kT_divide 91 = .ok (.getfield 47, 3) := by decide +kernel
theorem dT_divide_94 : decode kT_divide 94 = .ok (.iload_n 3, 1) := by decide +kernel
theorem dT_divide_95 : decode kT_divide 95 = .ok (.invokevirtual 114, 3) := by decide +kernel
theorem dT_divide_98 : decode kT_divide 98 = .ok (.goto 133, 3) := by decide +kernel
theorem dT_divide_101 : decode kT_divide 101 = .ok (.iload 10, 2) := by decide +kernel
theorem dT_divide_103 : decode kT_divide 103 = .ok (.iconst 3, 1) := by decide +kernel
theorem dT_divide_104 : decode kT_divide 104 = .ok (.if_icmp .ne 7, 3) := by decide +kernel
theorem dT_divide_107 : decode kT_divide 107 = .ok (.iconst 1, 1) := by decide +kernel
theorem dT_divide_108 : decode kT_divide 108 = .ok (.goto 4, 3) := by decide +kernel
theorem dT_divide_111 : decode kT_divide 111 = .ok (.iconst 0, 1) := by decide +kernel
theorem dT_divide_112 : decode kT_divide 112 = .ok (.istore 11, 2) := by decide +kernel
theorem dT_divide_114 : decode kT_divide 114 = .ok (.iload 11, 2) := by decide +kernel
theorem dT_divide_116 : decode kT_divide 116 = .ok (.ifCond .eq 21, 3) := by decide +kernel
theorem dT_divide_119 : decode kT_divide 119 = .ok (.aload_n 0, 1) := by decide +kernel
theorem dT_divide_120 : decode kT_divide 120 = .ok (.iload_n 2, 1) := by decide +kernel
theorem dT_divide_121 : decode kT_divide 121 = .ok (.iload 7, 2) := by decide +kernel
theorem dT_divide_123 : decode kT_divide 123 = .ok (.iload 8, 2) := by decide +kernel
theorem dT_divide_125 : decode kT_divide 125 = .ok (.iconst 0, 1) := by decide +kernel
theorem dT_divide_126 : decode kT_divide 126 = .ok (.invokevirtual 157, 3) := by decide +kernel
theorem dT_divide_129 : decode kT_divide 129 = .ok (.iconst 1, 1) := by decide +kernel
theorem dT_divide_130 : decode kT_divide 130 = .ok (.if_icmp .ne 7, 3) := by decide +kernel
theorem dT_divide_133 : decode kT_divide 133 = .ok (.iconst 1, 1) := by decide +kernel
theorem dT_divide_134 : decode kT_divide 134 = .ok (.goto 4, 3) := by decide +kernel
theorem dT_divide_137 : decode kT_divide 137 = .ok (.iconst 0, 1) := by decide +kernel
theorem dT_divide_138 : decode kT_divide 138 = .ok (.istore 12, 2) := by decide +kernel
theorem dT_divide_140 : decode kT_divide 140 = .ok (.iload 10, 2) := by decide +kernel
theorem dT_divide_142 : decode kT_divide 142 = .ok (.iconst 1, 1) := by decide +kernel
theorem dT_divide_143 : decode kT_divide 143 = .ok (.iand, 1) := by decide +kernel
theorem dT_divide_144 : decode kT_divide 144 = .ok (.ifCond .eq 39, 3) := by decide +kernel
theorem dT_divide_147 : decode kT_divide 147 = .ok (.aload_n 0, 1) := by decide +kernel
theorem dT_divide_148 : decode kT_divide 148 = .ok (.getfield 62, 3) := by decide +kernel
theorem dT_divide_151 : decode kT_divide 151 = .ok (.iload 7, 2) := by decide +kernel
theorem dT_divide_153 : decode kT_divide 153 = .ok (.iload 11, 2) := by decide +kernel
theorem dT_divide_155 : decode kT_divide 155 = .ok (.ifCond .eq 12, 3) := by decide +kernel
theorem dT_divide_158 : decode kT_divide 158 = .ok (.iload 12, 2) := by decide +kernel
theorem dT_divide_160 : decode kT_divide 160 = .ok (.ifCond .ne 7, 3) := by decide +kernel
theorem dT_divide_163 : decode kT_divide 163 = .ok (.iload_n 2, 1) := by decide +kernel
theorem dT_divide_164 : decode kT_divide 164 = .ok (.goto 5, 3) := by decide +kernel
theorem dT_divide_167 : decode kT_divide 167 = .ok (.iload 8, 2) := by decide +kernel
theorem dT_divide_169 : decode kT_divide 169 = .ok (.iload 12, 2) := by decide +kernel
theorem dT_divide_171 : decode kT_divide 171 = .ok (.ifCond .eq 7, 3) := by decide +kernel
theorem dT_divide_174 : decode kT_divide 174 = .ok (.iload_n 2, 1) := by decide +kernel
theorem dT_divide_175 : decode kT_divide 175 = .ok (.goto 5, 3) := by decide +kernel
theorem dT_divide_178 : decode kT_divide 178 = .ok (.iload 9, 2) := by decide +kernel
theorem dT_divide_180 : decode kT_divide 180 = .ok (.invokevirtual 91, 3) := by decide +kernel
theorem dT_divide_183 : decode kT_divide 183 = .ok (.iload 10, 2) := by decide +kernel
theorem dT_divide_185 : decode kT_divide 185 = .ok (.iconst 2, 1) := by decide +kernel
theorem dT_divide_186 : decode kT_divide 186 = .ok (.iand, 1) := by decide +kernel
theorem dT_divide_187 : decode kT_divide 187 = .ok (.ifCond .eq 44, 3) := by decide +kernel
theorem dT_divide_190 : decode kT_divide 190 = .ok (.aload_n 0, 1) := by decide +kernel
theorem dT_divide_191 : decode kT_divide 191 = .ok (.getfield 50, 3) := by decide +kernel
theorem dT_divide_194 : decode kT_divide 194 = .ok (.iload 5, 2) := by decide +kernel
theorem dT_divide_196 : decode kT_divide 196 = .ok (.iload 7, 2) := by decide +kernel
theorem dT_divide_198 : decode kT_divide 198 = .ok (.iload 12, 2) := by decide +kernel
theorem dT_divide_200 : decode kT_divide 200 = .ok (.ifCond .eq 7, 3) := by decide +kernel
theorem dT_divide_203 : decode kT_divide 203 = .ok (.iload_n 2, 1) := by decide +kernel
theorem dT_divide_204 : decode kT_divide 204 = .ok (.goto 5, 3) := by decide +kernel
theorem dT_divide_207 : decode kT_divide 207 = .ok (.iload 8, 2) := by decide +kernel
theorem dT_divide_209 : decode kT_divide 209 = .ok (.iload 11, 2) := by decide +kernel
theorem dT_divide_211 : decode kT_divide 211 = .ok (.ifCond .eq 12, 3) := by decide +kernel
theorem dT_divide_214 : decode kT_divide 214 = .ok (.iload 12, 2) := by decide +kernel
theorem dT_divide_216 : decode kT_divide 216 = .ok (.ifCond .ne 7, 3) := by decide +kernel
theorem dT_divide_219 : decode kT_divide 219 = .ok (.iload_n 2, 1) := by decide +kernel
theorem dT_divide_220 : decode kT_divide 220 = .ok (.goto 5, 3) := by decide +kernel
theorem dT_divide_223 : decode kT_divide 223 = .ok (.iload 9, 2) := by decide +kernel
theorem dT_divide_225 : decode kT_divide 225 = .ok (.invokevirtual 161, 3) := by decide +kernel
theorem dT_divide_228 : decode kT_divide 228 = .ok (.iinc 5 1, 3) := by decide +kernel
theorem dT_divide_231 : decode kT_divide 231 = .ok (.iinc 6 1, 3) := by decide +kernel
theorem dT_divide_234 : decode kT_divide 234 = .ok (.goto (-211), 3) := by decide +kernel
theorem dT_divide_237 : decode kT_divide 237 = .ok (.aload_n 0, 1) := by decide +kernel
theorem dT_divide_238 : decode kT_divide 238 = .ok (.getfield 50, 3) := by decide +kernel
theorem dT_divide_241 : decode kT_divide 241 = .ok (.iload 5, 2) := by decide +kernel
theorem dT_divide_243 : decode kT_divide 243 = .ok (.invokevirtual 109, 3) := by decide +kernel
theorem dT_divide_246 : decode kT_divide 246 = .ok (.iconst 0, 1) := by decide +kernel
theorem dT_divide_247 : decode kT_divide 247 = .ok (.istore 6, 2) := by decide +kernel
theorem dT_divide_249 : decode kT_divide 249 = .ok (.iload 6, 2) := by decide +kernel
theorem dT_divide_251 : decode kT_divide 251 = .ok (.aload_n 0, 1) := by decide +kernel
theorem dT_divide_252 : decode kT_divide 252 = .ok (.getfield 62, 3) := by decide +kernel
theorem dT_divide_255 : decode kT_divide 255 = .ok (.invokevirtual 94, 3) := by decide +kernel
theorem dT_divide_258 : decode kT_divide 258 = .ok (.if_icmp .ge 43, 3) := by decide +kernel
theorem dT_divide_261 : decode kT_divide 261 = .ok (.aload_n 0, 1) := by decide +kernel
theorem dT_divide_262 : decode kT_divide 262 = .ok (.getfield 50, 3) := by decide +kernel
theorem dT_divide_265 : decode kT_divide 265 = .ok (.aload_n 0, 1) := by decide +kernel
theorem dT_divide_266 : decode kT_divide 266 = .ok (.getfield 62, 3) := by decide +kernel
theorem dT_divide_269 : decode kT_divide 269 = .ok (.iload 6, 2) := by decide +kernel
theorem dT_divide_271 : decode kT_divide 271 = .ok (.invokevirtual 142, 3) := by decide +kernel
theorem dT_divide_274 : decode kT_divide 274 = .ok (.aload_n 0, 1) := by decide +kernel
theorem dT_divide_275 : decode kT_divide 275 = .ok (.getfield 62, 3) := by decide +kernel
theorem dT_divide_278 : decode kT_divide 278 = .ok (.iload 6, 2) := by decide +kernel
theorem dT_divide_280 : decode kT_divide 280 = .ok (.invokevirtual 151, 3) := by decide +kernel
theorem dT_divide_283 : decode kT_divide 283 = .ok (.aload_n 0, 1) := by decide +kernel
theorem dT_divide_284 : decode kT_divide 284 = .ok (.getfield 62, 3) := by decide +kernel
theorem dT_divide_287 : decode kT_divide 287 = .ok (.iload 6, 2) := by decide +kernel
theorem dT_divide_289 : decode kT_divide 289 = .ok (.invokevirtual 154, 3) := by decide +kernel
theorem dT_divide_292 : decode kT_divide 292 = .ok (.invokevirtual 91, 3) := by decide +kernel
theorem dT_divide_295 : decode kT_divide 295 = .ok (.iinc 6 1, 3) := by decide +kernel
theorem dT_divide_298 : decode kT_divide 298 = .ok (.goto (-49), 3) := by decide +kernel
theorem dT_divide_301 : decode kT_divide 301 = .ok (.iload 5, 2) := by decide +kernel
theorem dT_divide_303 : decode kT_divide 303 = .ok (.ireturn, 1) := by decide +kernel
theorem dT_countSizes_0 : decode kT_countSizes 0 = .ok (.aload_n 0, 1) := by decide +kernel
theorem dT_countSizes_1 : decode kT_countSizes 1 = .ok (.getfield 21, 3) := by decide +kernel
theorem dT_countSizes_4 : decode kT_countSizes 4 = .ok (.invokevirtual 98, 3) := by decide +kernel
theorem dT_countSizes_7 : decode kT_countSizes 7 = .ok (.iconst 1, 1) := by decide +kernel
theorem dT_countSizes_8 : decode kT_countSizes 8 = .ok (.isub, 1) := by decide +kernel
theorem dT_countSizes_9 : decode kT_countSizes 9 = .ok (.istore_n 1, 1) := by decide +kernel
theorem dT_countSizes_10 : decode kT_countSizes 10 = .ok (.iload_n 1, 1) := by decide +kernel
theorem dT_countSizes_11 : decode kT_countSizes 11 = .ok (.ifCond .lt 44, 3) := by decide +kernel
theorem dT_countSizes_14 : decode kT_countSizes 14 = .ok (.aload_n 0, 1) := by decide +kernel
theorem dT_countSizes_15 : decode kT_countSizes 15 = .ok (.getfield 31, 3) := by decide +kernel
theorem dT_countSizes_18 : decode kT_countSizes 18 = .ok (.iload_n 1, 1) := by decide +kernel
theorem dT_countSizes_19 : decode kT_countSizes 19 = .ok (.iconst 1, 1) := by decide +kernel
theorem dT_countSizes_20 : decode kT_countSizes 20 = .ok (.aload_n 0, 1) := by decide +kernel
theorem dT_countSizes_21 : decode kT_countSizes 21 = .ok (.aload_n 0, 1) := by decide +kernel
theorem dT_countSizes_22 : decode kT_countSizes 22 = .ok (.getfield 25, 3) := by decide +kernel
theorem dT_countSizes_25 : decode kT_countSizes 25 = .ok (.iload_n 1, 1) := by decide +kernel
theorem dT_countSizes_26 : decode kT_countSizes 26 = .ok (.invokevirtual 116, 3) := by decide +kernel
theorem dT_countSizes_29 : decode kT_countSizes 29 = .ok (.invokevirtual 139, 3) := by decide +kernel
theorem dT_countSizes_32 : decode kT_countSizes 32 = .ok (.iadd, 1) := by decide +kernel
theorem dT_countSizes_33 : decode kT_countSizes 33 = .ok (.aload_n 0, 1) := by decide +kernel
theorem dT_countSizes_34 : decode kT_countSizes 34 = .ok (.aload_n 0, 1) := by decide +kernel
theorem dT_countSizes_35 : decode kT_countSizes 35 = .ok (.getfield 28, 3) := by decide +kernel
theorem dT_countSizes_38 : decode kT_countSizes 38 = .ok (.iload_n 1, 1) := by decide +kernel
theorem dT_countSizes_39 : decode kT_countSizes 39 = .ok (.invokevirtual 116, 3) := by decide +kernel
theorem dT_countSizes_42 : decode kT_countSizes 42 = .ok (.invokevirtual 139, 3) := by decide +kernel
theorem dT_countSizes_45 : decode kT_countSizes 45 = .ok (.iadd, 1) := by decide +kernel
theorem dT_countSizes_46 : decode kT_countSizes 46 = .ok (.invokevirtual 119, 3) := by decide +kernel
theorem dT_countSizes_49 : decode kT_countSizes 49 = .ok (.iinc 1 (-1), 3) := by decide +kernel
theorem dT_countSizes_52 : decode kT_countSizes 52 = .ok (.goto (-42), 3) := by decide +kernel
theorem dT_countSizes_55 : decode kT_countSizes 55 = .ok (.return_, 1) := by decide +kernel
theorem dT_nodesIn_0 : decode kT_nodesIn 0 = .ok (.aload_n 0, 1) := by decide +kernel
theorem dT_nodesIn_1 : decode kT_nodesIn 1 = .ok (.iload_n 1, 1) := by decide +kernel
theorem dT_nodesIn_2 : decode kT_nodesIn 2 = .ok (.invokevirtual 123, 3) := by decide +kernel
theorem dT_nodesIn_5 : decode kT_nodesIn 5 = .ok (.ifCond .eq 14, 3) := by decide +kernel
theorem dT_nodesIn_8 : decode kT_nodesIn 8 = .ok (.aload_n 0, 1) := by decide +kernel
theorem dT_nodesIn_9 : decode kT_nodesIn 9 = .ok (.getfield 31, 3) := by decide +kernel
theorem dT_nodesIn_12 : decode kT_nodesIn 12 = .ok (.iload_n 1, 1) := by decide +kernel
theorem dT_nodesIn_13 : decode kT_nodesIn 13 = .ok (.invokevirtual 116, 3) := by decide +kernel
theorem dT_nodesIn_16 : decode kT_nodesIn 16 = .ok (.goto 4, 3) := by decide +kernel
theorem dT_nodesIn_19 : decode kT_nodesIn 19 = .ok (.iconst 0, 1) := by decide +kernel
theorem dT_nodesIn_20 : decode kT_nodesIn 20 = .ok (.ireturn, 1) := by decide +kernel
theorem dT_lineOf_0 : decode kT_lineOf 0 = .ok (.aload_n 0, 1) := by decide +kernel
theorem dT_lineOf_1 : decode kT_lineOf 1 = .ok (.getfield 21, 3) := by decide +kernel
theorem dT_lineOf_4 : decode kT_lineOf 4 = .ok (.iload_n 1, 1) := by decide +kernel
theorem dT_lineOf_5 : decode kT_lineOf 5 = .ok (.invokevirtual 116, 3) := by decide +kernel
theorem dT_lineOf_8 : decode kT_lineOf 8 = .ok (.ireturn, 1) := by decide +kernel
theorem dT_leftOf_0 : decode kT_leftOf 0 = .ok (.aload_n 0, 1) := by decide +kernel
theorem dT_leftOf_1 : decode kT_leftOf 1 = .ok (.getfield 25, 3) := by decide +kernel
theorem dT_leftOf_4 : decode kT_leftOf 4 = .ok (.iload_n 1, 1) := by decide +kernel
theorem dT_leftOf_5 : decode kT_leftOf 5 = .ok (.invokevirtual 116, 3) := by decide +kernel
theorem dT_leftOf_8 : decode kT_leftOf 8 = .ok (.ireturn, 1) := by decide +kernel
theorem dT_rightOf_0 : decode kT_rightOf 0 = .ok (.aload_n 0, 1) := by decide +kernel
theorem dT_rightOf_1 : decode kT_rightOf 1 = .ok (.getfield 28, 3) := by decide +kernel
theorem dT_rightOf_4 : decode kT_rightOf 4 = .ok (.iload_n 1, 1) := by decide +kernel
theorem dT_rightOf_5 : decode kT_rightOf 5 = .ok (.invokevirtual 116, 3) := by decide +kernel
theorem dT_rightOf_8 : decode kT_rightOf 8 = .ok (.ireturn, 1) := by decide +kernel
theorem dT_ownPieces_0 : decode kT_ownPieces 0 = .ok (.aload_n 0, 1) := by decide +kernel
theorem dT_ownPieces_1 : decode kT_ownPieces 1 = .ok (.iload_n 1, 1) := by decide +kernel
theorem dT_ownPieces_2 : decode kT_ownPieces 2 = .ok (.invokevirtual 123, 3) := by decide +kernel
theorem dT_ownPieces_5 : decode kT_ownPieces 5 = .ok (.ifCond .eq 19, 3) := by decide +kernel
theorem dT_ownPieces_8 : decode kT_ownPieces 8 = .ok (.aload_n 0, 1) := by decide +kernel
theorem dT_ownPieces_9 : decode kT_ownPieces 9 = .ok (.iload_n 1, 1) := by decide +kernel
theorem dT_ownPieces_10 : decode kT_ownPieces 10 = .ok (.iconst 1, 1) := by decide +kernel
theorem dT_ownPieces_11 : decode kT_ownPieces 11 = .ok (.iadd, 1) := by decide +kernel
theorem dT_ownPieces_12 : decode kT_ownPieces 12 = .ok (.invokevirtual 195, 3) := by decide +kernel
theorem dT_ownPieces_15 : decode kT_ownPieces 15 = .ok (.aload_n 0, 1) := by decide +kernel
theorem dT_ownPieces_16 : decode kT_ownPieces 16 = .ok (.iload_n 1, 1) := by decide +kernel
theorem dT_ownPieces_17 : decode kT_ownPieces 17 = .ok (.invokevirtual 195, 3) := by decide +kernel
theorem dT_ownPieces_20 : decode kT_ownPieces 20 = .ok (.isub, 1) := by decide +kernel
theorem dT_ownPieces_21 : decode kT_ownPieces 21 = .ok (.goto 4, 3) := by decide +kernel
theorem dT_ownPieces_24 : decode kT_ownPieces 24 = .ok (.iconst 0, 1) := by decide +kernel
theorem dT_ownPieces_25 : decode kT_ownPieces 25 = .ok (.ireturn, 1) := by decide +kernel
theorem dT_firstPieceFrom_0 : decode kT_firstPieceFrom 0 = .ok (.aload_n 0, 1) := by decide +kernel
theorem dT_firstPieceFrom_1 : decode kT_firstPieceFrom 1 = .ok (.iload_n 1, 1) := by decide +kernel
theorem dT_firstPieceFrom_2 : decode kT_firstPieceFrom 2 = .ok (.invokevirtual 123, 3) := by decide +kernel
theorem dT_firstPieceFrom_5 : decode kT_firstPieceFrom 5 = .ok (.ifCond .eq 14, 3) := by decide +kernel
theorem dT_firstPieceFrom_8 : decode kT_firstPieceFrom 8 = .ok (.aload_n 0, 1) := by decide +kernel
theorem dT_firstPieceFrom_9 : decode kT_firstPieceFrom 9 = .ok (.getfield 37, 3) := by decide +kernel
theorem dT_firstPieceFrom_12 : decode kT_firstPieceFrom 12 = .ok (.iload_n 1, 1) := by decide +kernel
theorem dT_firstPieceFrom_13 : decode kT_firstPieceFrom 13 = .ok (.invokevirtual 116, 3) := by decide +kernel
theorem dT_firstPieceFrom_16 : decode kT_firstPieceFrom 16 = .ok (.goto 10, 3) := by decide +kernel
theorem dT_firstPieceFrom_19 : decode kT_firstPieceFrom 19 = .ok (.aload_n 0, 1) := by decide +kernel
theorem dT_firstPieceFrom_20 : decode kT_firstPieceFrom 20 = .ok (.getfield 43, 3) := by decide +kernel
theorem dT_firstPieceFrom_23 : decode kT_firstPieceFrom 23 = .ok (.invokevirtual 94, 3) := by decide +kernel
theorem dT_firstPieceFrom_26 : decode kT_firstPieceFrom 26 = .ok (.ireturn, 1) := by decide +kernel
theorem dT_depthOf_0 : decode kT_depthOf 0 = .ok (.aload_n 0, 1) := by decide +kernel
theorem dT_depthOf_1 : decode kT_depthOf 1 = .ok (.getfield 34, 3) := by decide +kernel
theorem dT_depthOf_4 : decode kT_depthOf 4 = .ok (.iload_n 1, 1) := by decide +kernel
theorem dT_depthOf_5 : decode kT_depthOf 5 = .ok (.invokevirtual 116, 3) := by decide +kernel
theorem dT_depthOf_8 : decode kT_depthOf 8 = .ok (.ireturn, 1) := by decide +kernel
theorem dT_pieceAt_0 : decode kT_pieceAt 0 = .ok (.iload_n 2, 1) := by decide +kernel
theorem dT_pieceAt_1 : decode kT_pieceAt 1 = .ok (.ifCond .lt 22, 3) := by decide +kernel
theorem dT_pieceAt_4 : decode kT_pieceAt 4 = .ok (.iload_n 2, 1) := by decide +kernel
theorem dT_pieceAt_5 : decode kT_pieceAt 5 = .ok (.aload_n 0, 1) := by decide +kernel
theorem dT_pieceAt_6 : decode kT_pieceAt 6 = .ok (.iload_n 1, 1) := by decide +kernel
theorem dT_pieceAt_7 : decode kT_pieceAt 7 = .ok (.invokevirtual 198, 3) := by decide +kernel
theorem dT_pieceAt_10 : decode kT_pieceAt 10 = .ok (.if_icmp .ge 13, 3) := by decide +kernel
theorem dT_pieceAt_13 : decode kT_pieceAt 13 = .ok (.aload_n 0, 1) := by decide +kernel
theorem dT_pieceAt_14 : decode kT_pieceAt 14 = .ok (.iload_n 1, 1) := by decide +kernel
theorem dT_pieceAt_15 : decode kT_pieceAt 15 = .ok (.invokevirtual 195, 3) := by decide +kernel
theorem dT_pieceAt_18 : decode kT_pieceAt 18 = .ok (.iload_n 2, 1) := by decide +kernel
theorem dT_pieceAt_19 : decode kT_pieceAt 19 = .ok (.iadd, 1) := by decide +kernel
theorem dT_pieceAt_20 : decode kT_pieceAt 20 = .ok (.goto 4, 3) := by decide +kernel
theorem dT_pieceAt_23 : decode kT_pieceAt 23 = .ok (.iconst (-1), 1) := by decide +kernel
theorem dT_pieceAt_24 : decode kT_pieceAt 24 = .ok (.ireturn, 1) := by decide +kernel
theorem dT_wallOfPiece_0 : decode kT_wallOfPiece 0 = .ok (.aload_n 0, 1) := by decide +kernel
theorem dT_wallOfPiece_1 : decode kT_wallOfPiece 1 = .ok (.getfield 43, 3) := by decide +kernel
theorem dT_wallOfPiece_4 : decode kT_wallOfPiece 4 = .ok (.iload_n 1, 1) := by decide +kernel
theorem dT_wallOfPiece_5 : decode kT_wallOfPiece 5 = .ok (.invokevirtual 142, 3) := by decide +kernel
theorem dT_wallOfPiece_8 : decode kT_wallOfPiece 8 = .ok (.ireturn, 1) := by decide +kernel
theorem dT_quotientOf_0 : decode kT_quotientOf 0 = .ok (.aload_n 0, 1) := by decide +kernel
theorem dT_quotientOf_1 : decode kT_quotientOf 1 = .ok (.getfield 12, 3) := by decide +kernel
theorem dT_quotientOf_4 : decode kT_quotientOf 4 = .ok (.aload_n 0, 1) := by decide +kernel
theorem dT_quotientOf_5 : decode kT_quotientOf 5 = .ok (.getfield 43, 3) := by decide +kernel
theorem dT_quotientOf_8 : decode kT_quotientOf 8 = .ok (.iload_n 1, 1) := by decide +kernel
theorem dT_quotientOf_9 : decode kT_quotientOf 9 = .ok (.invokevirtual 142, 3) := by decide +kernel
theorem dT_quotientOf_12 : decode kT_quotientOf 12 = .ok (.invokevirtual 65, 3) := by decide +kernel
theorem dT_quotientOf_15 : decode kT_quotientOf 15 = .ok (.astore 4, 2) := by decide +kernel
theorem dT_quotientOf_17 : decode kT_quotientOf 17 = .ok (.aload_n 0, 1) := by decide +kernel
theorem dT_quotientOf_18 : decode kT_quotientOf 18 = .ok (.getfield 12, 3) := by decide +kernel
theorem dT_quotientOf_21 : decode kT_quotientOf 21 = .ok (.iload_n 2, 1) := by decide +kernel
theorem dT_quotientOf_22 : decode kT_quotientOf 22 = .ok (.ifCond .eq 14, 3) := by decide +kernel
theorem dT_quotientOf_25 : decode kT_quotientOf 25 = .ok (.aload_n 0, 1) := by decide +kernel
theorem dT_quotientOf_26 : decode kT_quotientOf 26 = .ok (.getfield 43, 3) := by decide +kernel
theorem dT_quotientOf_29 : decode kT_quotientOf 29 = .ok (.iload_n 1, 1) := by decide +kernel
theorem dT_quotientOf_30 : decode kT_quotientOf 30 = .ok (.invokevirtual 154, 3) := by decide +kernel
theorem dT_quotientOf_33 : decode kT_quotientOf 33 = .ok (.goto 11, 3) := by decide +kernel
theorem dT_quotientOf_36 : decode kT_quotientOf 36 = .ok (.aload_n 0, 1) := by decide +kernel
theorem dT_quotientOf_37 : decode kT_quotientOf 37 = .ok (.getfield 43, 3) := by decide +kernel
theorem dT_quotientOf_40 : decode kT_quotientOf 40 = .ok (.iload_n 1, 1) := by decide +kernel
theorem dT_quotientOf_41 : decode kT_quotientOf 41 = .ok (.invokevirtual 151, 3) := by decide +kernel
theorem dT_quotientOf_44 : decode kT_quotientOf 44 = .ok (.invokevirtual 65, 3) := by decide +kernel
theorem dT_quotientOf_47 : decode kT_quotientOf 47 = .ok (.astore 5, 2) := by decide +kernel
theorem dT_quotientOf_49 : decode kT_quotientOf 49 = .ok (.aload 4, 2) := by decide +kernel
theorem dT_quotientOf_51 : decode kT_quotientOf 51 = .ok (.ifnonnull 7, 3) := by decide +kernel
theorem dT_quotientOf_54 : decode kT_quotientOf 54 = .ok (.ldc2_w 201, 3) := by decide +kernel
theorem dT_quotientOf_57 : decode kT_quotientOf 57 = .ok (.lreturn, 1) := by decide +kernel
theorem dT_quotientOf_58 : decode kT_quotientOf 58 = .ok (.aload 5, 2) := by decide +kernel
theorem dT_quotientOf_60 : decode kT_quotientOf 60 = .ok (.ifnonnull 17, 3) := by decide +kernel
theorem dT_quotientOf_63 : decode kT_quotientOf 63 = .ok (.iload_n 3, 1) := by decide +kernel
theorem dT_quotientOf_64 : decode kT_quotientOf 64 = .ok (.ifCond .eq 11, 3) := by decide +kernel
theorem dT_quotientOf_67 : decode kT_quotientOf 67 = .ok (.iload_n 2, 1) := by decide +kernel
theorem dT_quotientOf_68 : decode kT_quotientOf 68 = .ok (.ifCond .ne 7, 3) := by decide +kernel
theorem dT_quotientOf_71 : decode kT_quotientOf 71 = .ok (.lconst 0, 1) := by decide +kernel
theorem dT_quotientOf_72 : decode kT_quotientOf 72 = .ok (.goto 4, 3) := by decide +kernel
theorem dT_quotientOf_75 : decode kT_quotientOf 75 = .ok (.lconst 1, 1) := by decide +kernel
theorem dT_quotientOf_76 : decode kT_quotientOf 76 = .ok (.lreturn, 1) := by decide +kernel
theorem dT_quotientOf_77 : decode kT_quotientOf 77 = .ok (.aload 5, 2) := by decide +kernel
theorem dT_quotientOf_79 : decode kT_quotientOf 79 = .ok (.aload 4, 2) := by decide +kernel
theorem dT_quotientOf_81 : decode kT_quotientOf 81 = .ok (.getfield 164, 3) := by decide +kernel
theorem dT_quotientOf_84 : decode kT_quotientOf 84 = .ok (.aload 4, 2) := by decide +kernel
theorem dT_quotientOf_86 : decode kT_quotientOf 86 = .ok (.getfield 169, 3) := by decide +kernel
theorem dT_quotientOf_89 : decode kT_quotientOf 89 = .ok (.invokevirtual 172, 3) := by decide +kernel
theorem dT_quotientOf_92 : decode kT_quotientOf 92 = .ok (.invokestatic 186, 3) := by decide +kernel
theorem dT_quotientOf_95 : decode kT_quotientOf 95 = .ok (.lstore 6, 2) := by decide +kernel
theorem dT_quotientOf_97 : decode kT_quotientOf 97 = .ok (.lload 6, 2) := by decide +kernel
theorem dT_quotientOf_99 : decode kT_quotientOf 99 = .ok (.aload 5, 2) := by decide +kernel
theorem dT_quotientOf_101 : decode kT_quotientOf 101 = .ok (.aload 4, 2) := by decide +kernel
theorem dT_quotientOf_103 : decode kT_quotientOf 103 = .ok (.getfield 176, 3) := by decide +kernel
theorem dT_quotientOf_106 : decode kT_quotientOf 106 = .ok (.aload 4, 2) := by decide +kernel
theorem dT_quotientOf_108 : decode kT_quotientOf 108 = .ok (.getfield 179, 3) := by decide +kernel
theorem dT_quotientOf_111 : decode kT_quotientOf 111 = .ok (.invokevirtual 172, 3) := by decide +kernel
theorem dT_quotientOf_114 : decode kT_quotientOf 114 = .ok (.invokestatic 186, 3) := by decide +kernel
theorem dT_quotientOf_117 : decode kT_quotientOf 117 = .ok (.ladd, 1) := by decide +kernel
theorem dT_quotientOf_118 : decode kT_quotientOf 118 = .ok (.lstore 8, 2) := by decide +kernel
theorem dT_quotientOf_120 : decode kT_quotientOf 120 = .ok (.lload 8, 2) := by decide +kernel
theorem dT_quotientOf_122 : decode kT_quotientOf 122 = .ok (.lload 6, 2) := by decide +kernel
theorem dT_quotientOf_124 : decode kT_quotientOf 124 = .ok (.invokestatic 203, 3) := by decide +kernel
theorem dT_quotientOf_127 : decode kT_quotientOf 127 = .ok (.lstore 10, 2) := by decide +kernel
theorem dT_quotientOf_129 : decode kT_quotientOf 129 = .ok (.lload 10, 2) := by decide +kernel
theorem dT_quotientOf_131 : decode kT_quotientOf 131 = .ok (.lconst 0, 1) := by decide +kernel
theorem dT_quotientOf_132 : decode kT_quotientOf 132 = .ok (.lcmp, 1) := by decide +kernel
theorem dT_quotientOf_133 : decode kT_quotientOf 133 = .ok (.ifCond .ne 7, 3) := by decide +kernel
theorem dT_quotientOf_136 : decode kT_quotientOf 136 = .ok (.ldc2_w 201, 3) := by decide +kernel
theorem dT_quotientOf_139 : decode kT_quotientOf 139 = .ok (.lreturn, 1) := by decide +kernel
theorem dT_quotientOf_140 : decode kT_quotientOf 140 = .ok (.iload_n 3, 1) := by decide +kernel
theorem dT_quotientOf_141 : decode kT_quotientOf 141 = .ok (.ifCond .eq 8, 3) := by decide +kernel
theorem dT_quotientOf_144 : decode kT_quotientOf 144 = .ok (.lload 6, 2) := by decide +kernel
theorem dT_quotientOf_146 : decode kT_quotientOf 146 = .ok (.goto 5, 3) := by decide +kernel
theorem dT_quotientOf_149 : decode kT_quotientOf 149 = .ok (.lload 8, 2) := by decide +kernel
theorem dT_quotientOf_151 : decode kT_quotientOf 151 = .ok (.lload 10, 2) := by decide +kernel
theorem dT_quotientOf_153 : decode kT_quotientOf 153 = .ok (.ldiv, 1) := by decide +kernel
theorem dT_quotientOf_154 : decode kT_quotientOf 154 = .ok (.lreturn, 1) := by decide +kernel
theorem dT_commonDivisor_0 : decode kT_commonDivisor 0 = .ok (.lload_n 0, 1) := by decide +kernel
theorem dT_commonDivisor_1 : decode kT_commonDivisor 1 = .ok (.lstore 4, 2) := by decide +kernel
theorem dT_commonDivisor_3 : decode kT_commonDivisor 3 = .ok (.lload_n 2, 1) := by decide +kernel
theorem dT_commonDivisor_4 : decode kT_commonDivisor 4 = .ok (.lstore 6, 2) := by decide +kernel
theorem dT_commonDivisor_6 : decode kT_commonDivisor 6 = .ok (.iconst 0, 1) := by decide +kernel
theorem dT_commonDivisor_7 : decode kT_commonDivisor 7 = .ok (.istore 8, 2) := by decide +kernel
theorem dT_commonDivisor_9 : decode kT_commonDivisor 9 = .ok (.iload 8, 2) := by decide +kernel
theorem dT_commonDivisor_11 : decode kT_commonDivisor 11 = .ok (.sipush 128, 3) := by decide +kernel
theorem dT_commonDivisor_14 : decode kT_commonDivisor 14 = .ok (.if_icmp .ge 31, 3) := by decide +kernel
theorem dT_commonDivisor_17 : decode kT_commonDivisor 17 = .ok (.lload 6, 2) := by decide +kernel
theorem dT_commonDivisor_19 : decode kT_commonDivisor 19 = .ok (.lconst 0, 1) := by decide +kernel
theorem dT_commonDivisor_20 : decode kT_commonDivisor 20 = .ok (.lcmp, 1) := by decide +kernel
theorem dT_commonDivisor_21 : decode kT_commonDivisor 21 = .ok (.ifCond .eq 24, 3) := by decide +kernel
theorem dT_commonDivisor_24 : decode kT_commonDivisor 24 = .ok (.lload 4, 2) := by decide +kernel
theorem dT_commonDivisor_26 : decode kT_commonDivisor 26 = .ok (.lload 6, 2) := by decide +kernel
theorem dT_commonDivisor_28 : decode kT_commonDivisor 28 = .ok (.lrem, 1) := by decide +kernel
theorem dT_commonDivisor_29 : decode kT_commonDivisor 29 = .ok (.lstore 9, 2) := by decide +kernel
theorem dT_commonDivisor_31 : decode kT_commonDivisor 31 = .ok (.lload 6, 2) := by decide +kernel
theorem dT_commonDivisor_33 : decode kT_commonDivisor 33 = .ok (.lstore 4, 2) := by decide +kernel
theorem dT_commonDivisor_35 : decode kT_commonDivisor 35 = .ok (.lload 9, 2) := by decide +kernel
theorem dT_commonDivisor_37 : decode kT_commonDivisor 37 = .ok (.lstore 6, 2) := by decide +kernel
theorem dT_commonDivisor_39 : decode kT_commonDivisor 39 = .ok (.iinc 8 1, 3) := by decide +kernel
theorem dT_commonDivisor_42 : decode kT_commonDivisor 42 = .ok (.goto (-33), 3) := by decide +kernel
theorem dT_commonDivisor_45 : decode kT_commonDivisor 45 = .ok (.lload 4, 2) := by decide +kernel
theorem dT_commonDivisor_47 : decode kT_commonDivisor 47 = .ok (.lreturn, 1) := by decide +kernel
theorem dT_leafAround_0 : decode kT_leafAround 0 = .ok (.iconst 0, 1) := by decide +kernel
theorem dT_leafAround_1 : decode kT_leafAround 1 = .ok (.istore_n 3, 1) := by decide +kernel
theorem dT_leafAround_2 : decode kT_leafAround 2 = .ok (.iconst 0, 1) := by decide +kernel
theorem dT_leafAround_3 : decode kT_leafAround 3 = .ok (.istore 4, 2) := by decide +kernel
theorem dT_leafAround_5 : decode kT_leafAround 5 = .ok (.iconst 0, 1) := by decide +kernel
theorem dT_leafAround_6 : decode kT_leafAround 6 = .ok (.istore 5, 2) := by decide +kernel
theorem dT_leafAround_8 : decode kT_leafAround 8 = .ok (.iload 5, 2) := by decide +kernel
theorem dT_leafAround_10 : decode kT_leafAround 10 = .ok (.bipush 64, 2) := by decide +kernel
theorem dT_leafAround_12 : decode kT_leafAround 12 = .ok (.if_icmp .ge 69, 3) := by decide +kernel
theorem dT_leafAround_15 : decode kT_leafAround 15 = .ok (.aload_n 0, 1) := by decide +kernel
theorem dT_leafAround_16 : decode kT_leafAround 16 = .ok (.iload 4, 2) := by decide +kernel
theorem dT_leafAround_18 : decode kT_leafAround 18 = .ok (.invokevirtual 123, 3) := by decide +kernel
theorem dT_leafAround_21 : decode kT_leafAround 21 = .ok (.ifCond .eq 60, 3) := by decide +kernel
theorem dT_leafAround_24 : decode kT_leafAround 24 = .ok (.aload_n 0, 1) := by decide +kernel
theorem dT_leafAround_25 : decode kT_leafAround 25 = .ok (.getfield 25, 3) := by decide +kernel
theorem dT_leafAround_28 : decode kT_leafAround 28 = .ok (.iload 4, 2) := by decide +kernel
theorem dT_leafAround_30 : decode kT_leafAround 30 = .ok (.invokevirtual 116, 3) := by decide +kernel
theorem dT_leafAround_33 : decode kT_leafAround 33 = .ok (.istore 6, 2) := by decide +kernel
theorem dT_leafAround_35 : decode kT_leafAround 35 = .ok (.aload_n 0, 1) := by decide +kernel
theorem dT_leafAround_36 : decode kT_leafAround 36 = .ok (.iload 4, 2) := by decide +kernel
theorem dT_leafAround_38 : decode kT_leafAround 38 = .ok (.iload_n 1, 1) := by decide +kernel
theorem dT_leafAround_39 : decode kT_leafAround 39 = .ok (.iload_n 2, 1) := by decide +kernel
theorem dT_leafAround_40 : decode kT_leafAround 40 = .ok (.invokevirtual 207, 3) := by decide +kernel
theorem dT_leafAround_43 : decode kT_leafAround 43 = .ok (.ifCond .eq 10, 3) := by decide +kernel
theorem dT_leafAround_46 : decode kT_leafAround 46 = .ok (.iload 6, 2) := by decide +kernel
theorem dT_leafAround_48 : decode kT_leafAround 48 = .ok (.istore 4, 2) := by decide +kernel
theorem dT_leafAround_50 : decode kT_leafAround 50 = .ok (.goto 25, 3) := by decide +kernel
theorem dT_leafAround_53 : decode kT_leafAround 53 = .ok (.iload_n 3, 1) := by decide +kernel
theorem dT_leafAround_54 : decode kT_leafAround 54 = .ok (.aload_n 0, 1) := by decide +kernel
theorem dT_leafAround_55 : decode kT_leafAround 55 = .ok (.iload 6, 2) := by decide +kernel
theorem dT_leafAround_57 : decode kT_leafAround 57 = .ok (.invokevirtual 139, 3) := by decide +kernel
theorem dT_leafAround_60 : decode kT_leafAround 60 = .ok (.iconst 1, 1) := by decide +kernel
theorem dT_leafAround_61 : decode kT_leafAround 61 = .ok (.iadd, 1) := by decide +kernel
theorem dT_leafAround_62 : decode kT_leafAround 62 = .ok (.iadd, 1) := by decide +kernel
theorem dT_leafAround_63 : decode kT_leafAround 63 = .ok (.istore_n 3, 1) := by decide +kernel
theorem dT_leafAround_64 : decode kT_leafAround 64 = .ok (.aload_n 0, 1) := by decide +kernel
theorem dT_leafAround_65 : decode kT_leafAround 65 = .ok (.getfield 28, 3) := by decide +kernel
theorem dT_leafAround_68 : decode kT_leafAround 68 = .ok (.iload 4, 2) := by decide +kernel
theorem dT_leafAround_70 : decode kT_leafAround 70 = .ok (.invokevirtual 116, 3) := by decide +kernel
theorem dT_leafAround_73 : decode kT_leafAround 73 = .ok (.istore 4, 2) := by decide +kernel
theorem dT_leafAround_75 : decode kT_leafAround 75 = .ok (.iinc 5 1, 3) := by decide +kernel
theorem dT_leafAround_78 : decode kT_leafAround 78 = .ok (.goto (-70), 3) := by decide +kernel
theorem dT_leafAround_81 : decode kT_leafAround 81 = .ok (.iload_n 3, 1) := by decide +kernel
theorem dT_leafAround_82 : decode kT_leafAround 82 = .ok (.ireturn, 1) := by decide +kernel
theorem dT_liesLeft_0 : decode kT_liesLeft 0 = .ok (.aload_n 0, 1) := by decide +kernel
theorem dT_liesLeft_1 : decode kT_liesLeft 1 = .ok (.getfield 12, 3) := by decide +kernel
theorem dT_liesLeft_4 : decode kT_liesLeft 4 = .ok (.aload_n 0, 1) := by decide +kernel
theorem dT_liesLeft_5 : decode kT_liesLeft 5 = .ok (.getfield 21, 3) := by decide +kernel
theorem dT_liesLeft_8 : decode kT_liesLeft 8 = .ok (.iload_n 1, 1) := by decide +kernel
theorem dT_liesLeft_9 : decode kT_liesLeft 9 = .ok (.invokevirtual 116, 3) := by decide +kernel
theorem dT_liesLeft_12 : decode kT_liesLeft 12 = .ok (.invokevirtual 65, 3) := by decide +kernel
theorem dT_liesLeft_15 : decode kT_liesLeft 15 = .ok (.astore 4, 2) := by decide +kernel
theorem dT_liesLeft_17 : decode kT_liesLeft 17 = .ok (.aload 4, 2) := by decide +kernel
theorem dT_liesLeft_19 : decode kT_liesLeft 19 = .ok (.ifnull 19, 3) := by decide +kernel
theorem dT_liesLeft_22 : decode kT_liesLeft 22 = .ok (.aload 4, 2) := by decide +kernel
theorem dT_liesLeft_24 : decode kT_liesLeft 24 = .ok (.iload_n 2, 1) := by decide +kernel
theorem dT_liesLeft_25 : decode kT_liesLeft 25 = .ok (.iload_n 3, 1) := by decide +kernel
theorem dT_liesLeft_26 : decode kT_liesLeft 26 = .ok (.invokevirtual 172, 3) := by decide +kernel
theorem dT_liesLeft_29 : decode kT_liesLeft 29 = .ok (.lconst 0, 1) := by decide +kernel
theorem dT_liesLeft_30 : decode kT_liesLeft 30 = .ok (.lcmp, 1) := by decide +kernel
theorem dT_liesLeft_31 : decode kT_liesLeft 31 = .ok (.ifCond .le 7, 3) := by decide +kernel
theorem dT_liesLeft_34 : decode kT_liesLeft 34 = .ok (.iconst 1, 1) := by decide +kernel
theorem dT_liesLeft_35 : decode kT_liesLeft 35 = .ok (.goto 4, 3) := by decide +kernel
theorem dT_liesLeft_38 : decode kT_liesLeft 38 = .ok (.iconst 0, 1) := by decide +kernel
theorem dT_liesLeft_39 : decode kT_liesLeft 39 = .ok (.ireturn, 1) := by decide +kernel
theorem dT_pieceCount_0 : decode kT_pieceCount 0 = .ok (.aload_n 0, 1) := by decide +kernel
theorem dT_pieceCount_1 : decode kT_pieceCount 1 = .ok (.getfield 43, 3) := by decide +kernel
theorem dT_pieceCount_4 : decode kT_pieceCount 4 = .ok (.invokevirtual 94, 3) := by decide +kernel
theorem dT_pieceCount_7 : decode kT_pieceCount 7 = .ok (.ireturn, 1) := by decide +kernel
theorem dT_pieceOnWay_0 : decode kT_pieceOnWay 0 = .ok (.iload_n 3, 1) := by decide +kernel
theorem dT_pieceOnWay_1 : decode kT_pieceOnWay 1 = .ok (.ifCond .ge 5, 3) := by decide +kernel
theorem dT_pieceOnWay_4 : decode kT_pieceOnWay 4 = .ok (.iconst (-1), 1) := by decide +kernel
theorem dT_pieceOnWay_5 : decode kT_pieceOnWay 5 = .ok (.ireturn, 1) := by decide +kernel
theorem dT_pieceOnWay_6 : decode kT_pieceOnWay 6 = .ok (.iload_n 3, 1) := by decide +kernel
theorem dT_pieceOnWay_7 : decode kT_pieceOnWay 7 = .ok (.istore 4, 2) := by decide +kernel
theorem dT_pieceOnWay_9 : decode kT_pieceOnWay 9 = .ok (.iconst 0, 1) := by decide +kernel
theorem dT_pieceOnWay_10 : decode kT_pieceOnWay 10 = .ok (.istore 5, 2) := by decide +kernel
theorem dT_pieceOnWay_12 : decode kT_pieceOnWay 12 = .ok (.iconst 0, 1) := by decide +kernel
theorem dT_pieceOnWay_13 : decode kT_pieceOnWay 13 = .ok (.istore 6, 2) := by decide +kernel
theorem dT_pieceOnWay_15 : decode kT_pieceOnWay 15 = .ok (.iload 6, 2) := by decide +kernel
theorem dT_pieceOnWay_17 : decode kT_pieceOnWay 17 = .ok (.bipush 64, 2) := by decide +kernel
theorem dT_pieceOnWay_19 : decode kT_pieceOnWay 19 = .ok (.if_icmp .ge 145, 3) := by decide +kernel
theorem dT_pieceOnWay_22 : decode kT_pieceOnWay 22 = .ok (.aload_n 0, 1) := by decide +kernel
theorem dT_pieceOnWay_23 : decode kT_pieceOnWay 23 = .ok (.iload 5, 2) := by decide +kernel
theorem dT_pieceOnWay_25 : decode kT_pieceOnWay 25 = .ok (.invokevirtual 123, 3) := by decide +kernel
theorem dT_pieceOnWay_28 : decode kT_pieceOnWay 28 = .ok (.ifCond .eq 136, 3) := by decide +kernel
theorem dT_pieceOnWay_31 : decode kT_pieceOnWay 31 = .ok (.aload_n 0, 1) := by decide +kernel
theorem dT_pieceOnWay_32 : decode kT_pieceOnWay 32 = .ok (.iload 5, 2) := by decide +kernel
theorem dT_pieceOnWay_34 : decode kT_pieceOnWay 34 = .ok (.iload_n 1, 1) := by decide +kernel
theorem dT_pieceOnWay_35 : decode kT_pieceOnWay 35 = .ok (.iload_n 2, 1) := by decide +kernel
theorem dT_pieceOnWay_36 : decode kT_pieceOnWay 36 = .ok (.invokevirtual 207, 3) := by decide +kernel
theorem dT_pieceOnWay_39 : decode kT_pieceOnWay 39 = .ok (.istore 7, 2) := by decide +kernel
theorem dT_pieceOnWay_41 : decode kT_pieceOnWay 41 = .ok (.iload 7, 2) := by decide +kernel
theorem dT_pieceOnWay_43 : decode kT_pieceOnWay 43 = .ok (.ifCond .eq 15, 3) := by decide +kernel
theorem dT_pieceOnWay_46 : decode kT_pieceOnWay 46 = .ok (.aload_n 0, 1) := by decide +kernel
theorem dT_pieceOnWay_47 : decode kT_pieceOnWay 47 = .ok (.getfield 25, 3) := by decide +kernel
theorem dT_pieceOnWay_50 : decode kT_pieceOnWay 50 = .ok (.iload 5, 2) := by decide +kernel
theorem dT_pieceOnWay_52 : decode kT_pieceOnWay 52 = .ok (.invokevirtual 116, 3) := by decide +kernel
theorem dT_pieceOnWay_55 : decode kT_pieceOnWay 55 = .ok (.goto 12, 3) := by decide +kernel
theorem dT_pieceOnWay_58 : decode kT_pieceOnWay 58 = .ok (.aload_n 0, 1) := by decide +kernel
theorem dT_pieceOnWay_59 : decode kT_pieceOnWay 59 = .ok (.getfield 28, 3) := by decide +kernel
theorem dT_pieceOnWay_62 : decode kT_pieceOnWay 62 = .ok (.iload 5, 2) := by decide +kernel
theorem dT_pieceOnWay_64 : decode kT_pieceOnWay 64 = .ok (.invokevirtual 116, 3) := by decide +kernel
theorem dT_pieceOnWay_67 : decode kT_pieceOnWay 67 = .ok (.istore 8, 2) := by decide +kernel
theorem dT_pieceOnWay_69 : decode kT_pieceOnWay 69 = .ok (.aload_n 0, 1) := by decide +kernel
theorem dT_pieceOnWay_70 : decode kT_pieceOnWay 70 = .ok (.iload 8, 2) := by decide +kernel
theorem dT_pieceOnWay_72 : decode kT_pieceOnWay 72 = .ok (.invokevirtual 211, 3) := by decide +kernel
theorem dT_pieceOnWay_75 : decode kT_pieceOnWay 75 = .ok (.istore 9, 2) := by decide +kernel
theorem dT_pieceOnWay_77 : decode kT_pieceOnWay 77 = .ok (.iload 4, 2) := by decide +kernel
theorem dT_pieceOnWay_79 : decode kT_pieceOnWay 79 = .ok (.iload 9, 2) := by decide +kernel
theorem dT_pieceOnWay_81 : decode kT_pieceOnWay 81 = .ok (.if_icmp .ge 10, 3) := by decide +kernel
theorem dT_pieceOnWay_84 : decode kT_pieceOnWay 84 = .ok (.iload 8, 2) := by decide +kernel
theorem dT_pieceOnWay_86 : decode kT_pieceOnWay 86 = .ok (.istore 5, 2) := by decide +kernel
theorem dT_pieceOnWay_88 : decode kT_pieceOnWay 88 = .ok (.goto 70, 3) := by decide +kernel
theorem dT_pieceOnWay_91 : decode kT_pieceOnWay 91 = .ok (.iload 4, 2) := by decide +kernel
theorem dT_pieceOnWay_93 : decode kT_pieceOnWay 93 = .ok (.iload 9, 2) := by decide +kernel
theorem dT_pieceOnWay_95 : decode kT_pieceOnWay 95 = .ok (.isub, 1) := by decide +kernel
theorem dT_pieceOnWay_96 : decode kT_pieceOnWay 96 = .ok (.istore 4, 2) := by decide +kernel
theorem dT_pieceOnWay_98 : decode kT_pieceOnWay 98 = .ok (.iload 4, 2) := by decide +kernel
theorem dT_pieceOnWay_100 : decode kT_pieceOnWay 100 = .ok (.aload_n 0, 1) := by decide +kernel
theorem dT_pieceOnWay_101 : decode kT_pieceOnWay 101 = .ok (.iload 5, 2) := by decide +kernel
theorem dT_pieceOnWay_103 : decode kT_pieceOnWay 103 = .ok (.invokevirtual 198, 3) := by decide +kernel
theorem dT_pieceOnWay_106 : decode kT_pieceOnWay 106 = .ok (.if_icmp .ge 13, 3) := by decide +kernel
theorem dT_pieceOnWay_109 : decode kT_pieceOnWay 109 = .ok (.aload_n 0, 1) := by decide +kernel
theorem dT_pieceOnWay_110 : decode kT_pieceOnWay 110 = .ok (.iload 5, 2) := by decide +kernel
theorem dT_pieceOnWay_112 : decode kT_pieceOnWay 112 = .ok (.invokevirtual 195, 3) := by decide +kernel
theorem dT_pieceOnWay_115 : decode kT_pieceOnWay 115 = .ok (.iload 4, 2) := by decide +kernel
theorem dT_pieceOnWay_117 : decode kT_pieceOnWay 117 = .ok (.iadd, 1) := by decide +kernel
theorem dT_pieceOnWay_118 : decode kT_pieceOnWay 118 = .ok (.ireturn, 1) := by decide +kernel
theorem dT_pieceOnWay_119 : decode kT_pieceOnWay 119 = .ok (.iload 4, 2) := by decide +kernel
theorem dT_pieceOnWay_121 : decode kT_pieceOnWay 121 = .ok (.aload_n 0, 1) := by decide +kernel
theorem dT_pieceOnWay_122 : decode kT_pieceOnWay 122 = .ok (.iload 5, 2) := by decide +kernel
theorem dT_pieceOnWay_124 : decode kT_pieceOnWay 124 = .ok (.invokevirtual 198, 3) := by decide +kernel
theorem dT_pieceOnWay_127 : decode kT_pieceOnWay 127 = .ok (.isub, 1) := by decide +kernel
theorem dT_pieceOnWay_128 : decode kT_pieceOnWay 128 = .ok (.istore 4, 2) := by decide +kernel
theorem dT_pieceOnWay_130 : decode kT_pieceOnWay 130 = .ok (.iload 7, 2) := by decide +kernel
theorem dT_pieceOnWay_132 : decode kT_pieceOnWay 132 = .ok (.ifCond .eq 15, 3) := by decide +kernel
theorem dT_pieceOnWay_135 : decode kT_pieceOnWay 135 = .ok (.aload_n 0, 1) := by decide +kernel
theorem dT_pieceOnWay_136 : decode kT_pieceOnWay 136 = .ok (.getfield 28, 3) := by decide +kernel
theorem dT_pieceOnWay_139 : decode kT_pieceOnWay 139 = .ok (.iload 5, 2) := by decide +kernel
theorem dT_pieceOnWay_141 : decode kT_pieceOnWay 141 = .ok (.invokevirtual 116, 3) := by decide +kernel
theorem dT_pieceOnWay_144 : decode kT_pieceOnWay 144 = .ok (.goto 12, 3) := by decide +kernel
theorem dT_pieceOnWay_147 : decode kT_pieceOnWay 147 = .ok (.aload_n 0, 1) := by decide +kernel
theorem dT_pieceOnWay_148 : decode kT_pieceOnWay 148 = .ok (.getfield 25, 3) := by decide +kernel
theorem dT_pieceOnWay_151 : decode kT_pieceOnWay 151 = .ok (.iload 5, 2) := by decide +kernel
theorem dT_pieceOnWay_153 : decode kT_pieceOnWay 153 = .ok (.invokevirtual 116, 3) := by decide +kernel
theorem dT_pieceOnWay_156 : decode kT_pieceOnWay 156 = .ok (.istore 5, 2) := by decide +kernel
theorem dT_pieceOnWay_158 : decode kT_pieceOnWay 158 = .ok (.iinc 6 1, 3) := by decide +kernel
theorem dT_pieceOnWay_161 : decode kT_pieceOnWay 161 = .ok (.goto (-146), 3) := by decide +kernel
theorem dT_pieceOnWay_164 : decode kT_pieceOnWay 164 = .ok (.iconst (-1), 1) := by decide +kernel
theorem dT_pieceOnWay_165 : decode kT_pieceOnWay 165 = .ok (.ireturn, 1) := by decide +kernel
theorem dT_piecesIn_0 : decode kT_piecesIn 0 = .ok (.aload_n 0, 1) := by decide +kernel
theorem dT_piecesIn_1 : decode kT_piecesIn 1 = .ok (.iload_n 1, 1) := by decide +kernel
theorem dT_piecesIn_2 : decode kT_piecesIn 2 = .ok (.invokevirtual 123, 3) := by decide +kernel
theorem dT_piecesIn_5 : decode kT_piecesIn 5 = .ok (.ifCond .eq 26, 3) := by decide +kernel
theorem dT_piecesIn_8 : decode kT_piecesIn 8 = .ok (.aload_n 0, 1) := by decide +kernel
theorem dT_piecesIn_9 : decode kT_piecesIn 9 = .ok (.iload_n 1, 1) := by decide +kernel
theorem dT_piecesIn_10 : decode kT_piecesIn 10 = .ok (.aload_n 0, 1) := by decide +kernel
theorem dT_piecesIn_11 : decode kT_piecesIn 11 = .ok (.getfield 31, 3) := by decide +kernel
theorem dT_piecesIn_14 : decode kT_piecesIn 14 = .ok (.iload_n 1, 1) := by decide +kernel
theorem dT_piecesIn_15 : decode kT_piecesIn 15 = .ok (.invokevirtual 116, 3) := by decide +kernel
theorem dT_piecesIn_18 : decode kT_piecesIn 18 = .ok (.iadd, 1) := by decide +kernel
theorem dT_piecesIn_19 : decode kT_piecesIn 19 = .ok (.invokevirtual 195, 3) := by decide +kernel
theorem dT_piecesIn_22 : decode kT_piecesIn 22 = .ok (.aload_n 0, 1) := by decide +kernel
theorem dT_piecesIn_23 : decode kT_piecesIn 23 = .ok (.iload_n 1, 1) := by decide +kernel
theorem dT_piecesIn_24 : decode kT_piecesIn 24 = .ok (.invokevirtual 195, 3) := by decide +kernel
theorem dT_piecesIn_27 : decode kT_piecesIn 27 = .ok (.isub, 1) := by decide +kernel
theorem dT_piecesIn_28 : decode kT_piecesIn 28 = .ok (.goto 4, 3) := by decide +kernel
theorem dT_piecesIn_31 : decode kT_piecesIn 31 = .ok (.iconst 0, 1) := by decide +kernel
theorem dT_piecesIn_32 : decode kT_piecesIn 32 = .ok (.ireturn, 1) := by decide +kernel
theorem dT_nodeOfPiece_0 : decode kT_nodeOfPiece 0 = .ok (.aload_n 0, 1) := by decide +kernel
theorem dT_nodeOfPiece_1 : decode kT_nodeOfPiece 1 = .ok (.getfield 47, 3) := by decide +kernel
theorem dT_nodeOfPiece_4 : decode kT_nodeOfPiece 4 = .ok (.iload_n 1, 1) := by decide +kernel
theorem dT_nodeOfPiece_5 : decode kT_nodeOfPiece 5 = .ok (.invokevirtual 116, 3) := by decide +kernel
theorem dT_nodeOfPiece_8 : decode kT_nodeOfPiece 8 = .ok (.ireturn, 1) := by decide +kernel
theorem dT_placeInNode_0 : decode kT_placeInNode 0 = .ok (.iload_n 1, 1) := by decide +kernel
theorem dT_placeInNode_1 : decode kT_placeInNode 1 = .ok (.iconst (-1), 1) := by decide +kernel
theorem dT_placeInNode_2 : decode kT_placeInNode 2 = .ok (.if_icmp .ne 7, 3) := by decide +kernel
theorem dT_placeInNode_5 : decode kT_placeInNode 5 = .ok (.iconst (-1), 1) := by decide +kernel
theorem dT_placeInNode_6 : decode kT_placeInNode 6 = .ok (.goto 17, 3) := by decide +kernel
theorem dT_placeInNode_9 : decode kT_placeInNode 9 = .ok (.iload_n 1, 1) := by decide +kernel
theorem dT_placeInNode_10 : decode kT_placeInNode 10 = .ok (.aload_n 0, 1) := by decide +kernel
theorem dT_placeInNode_11 : decode kT_placeInNode 11 = .ok (.aload_n 0, 1) := by decide +kernel
theorem dT_placeInNode_12 : decode kT_placeInNode 12 = .ok (.getfield 47, 3) := by decide +kernel
theorem dT_placeInNode_15 : decode kT_placeInNode 15 = .ok (.iload_n 1, 1) := by decide +kernel
theorem dT_placeInNode_16 : decode kT_placeInNode 16 = .ok (.invokevirtual 116, 3) := by decide +kernel
theorem dT_placeInNode_19 : decode kT_placeInNode 19 = .ok (.invokevirtual 195, 3) := by decide +kernel
theorem dT_placeInNode_22 : decode kT_placeInNode 22 = .ok (.isub, 1) := by decide +kernel
theorem dT_placeInNode_23 : decode kT_placeInNode 23 = .ok (.ireturn, 1) := by decide +kernel
theorem dT_wallAt_0 : decode kT_wallAt 0 = .ok (.aload_n 0, 1) := by decide +kernel
theorem dT_wallAt_1 : decode kT_wallAt 1 = .ok (.getfield 12, 3) := by decide +kernel
theorem dT_wallAt_4 : decode kT_wallAt 4 = .ok (.iload_n 1, 1) := by decide +kernel
theorem dT_wallAt_5 : decode kT_wallAt 5 = .ok (.invokevirtual 65, 3) := by decide +kernel
theorem dT_wallAt_8 : decode kT_wallAt 8 = .ok (.areturn, 1) := by decide +kernel
theorem dT_piecesOfWall_0 : decode kT_piecesOfWall 0 = .ok (.iconst 0, 1) := by decide +kernel
theorem dT_piecesOfWall_1 : decode kT_piecesOfWall 1 = .ok (.istore_n 2, 1) := by decide +kernel
theorem dT_piecesOfWall_2 : decode kT_piecesOfWall 2 = .ok (.iconst 0, 1) := by decide +kernel
theorem dT_piecesOfWall_3 : decode kT_piecesOfWall 3 = .ok (.istore_n 3, 1) := by decide +kernel
theorem dT_piecesOfWall_4 : decode kT_piecesOfWall 4 = .ok (.iload_n 3, 1) := by decide +kernel
theorem dT_piecesOfWall_5 : decode kT_piecesOfWall 5 = .ok (.aload_n 0, 1) := by decide +kernel
theorem dT_piecesOfWall_6 : decode kT_piecesOfWall 6 = .ok (.getfield 43, 3) := by decide +kernel
theorem dT_piecesOfWall_9 : decode kT_piecesOfWall 9 = .ok (.invokevirtual 94, 3) := by decide +kernel
theorem dT_piecesOfWall_12 : decode kT_piecesOfWall 12 = .ok (.if_icmp .ge 29, 3) := by decide +kernel
theorem dT_piecesOfWall_15 : decode kT_piecesOfWall 15 = .ok (.iload_n 2, 1) := by decide +kernel
theorem dT_piecesOfWall_16 : decode kT_piecesOfWall 16 = .ok (.aload_n 0, 1) := by decide +kernel
theorem dT_piecesOfWall_17 : decode kT_piecesOfWall 17 = .ok (.getfield 43, 3) := by decide +kernel
theorem dT_piecesOfWall_20 : decode kT_piecesOfWall 20 = .ok (.iload_n 3, 1) := by decide +kernel
theorem dT_piecesOfWall_21 : decode kT_piecesOfWall 21 = .ok (.invokevirtual 142, 3) := by decide +kernel
theorem dT_piecesOfWall_24 : decode kT_piecesOfWall 24 = .ok (.iload_n 1, 1) := by decide +kernel
theorem dT_piecesOfWall_25 : decode kT_piecesOfWall 25 = .ok (.if_icmp .ne 7, 3) := by decide +kernel
theorem dT_piecesOfWall_28 : decode kT_piecesOfWall 28 = .ok (.iconst 1, 1) := by decide +kernel
theorem dT_piecesOfWall_29 : decode kT_piecesOfWall 29 = .ok (.goto 4, 3) := by decide +kernel
theorem dT_piecesOfWall_32 : decode kT_piecesOfWall 32 = .ok (.iconst 0, 1) := by decide +kernel
theorem dT_piecesOfWall_33 : decode kT_piecesOfWall 33 = .ok (.iadd, 1) := by decide +kernel
theorem dT_piecesOfWall_34 : decode kT_piecesOfWall 34 = .ok (.istore_n 2, 1) := by decide +kernel
theorem dT_piecesOfWall_35 : decode kT_piecesOfWall 35 = .ok (.iinc 3 1, 3) := by decide +kernel
theorem dT_piecesOfWall_38 : decode kT_piecesOfWall 38 = .ok (.goto (-34), 3) := by decide +kernel
theorem dT_piecesOfWall_41 : decode kT_piecesOfWall 41 = .ok (.iload_n 2, 1) := by decide +kernel
theorem dT_piecesOfWall_42 : decode kT_piecesOfWall 42 = .ok (.ireturn, 1) := by decide +kernel
theorem dT_wallCount_0 : decode kT_wallCount 0 = .ok (.aload_n 0, 1) := by decide +kernel
theorem dT_wallCount_1 : decode kT_wallCount 1 = .ok (.getfield 12, 3) := by decide +kernel
theorem dT_wallCount_4 : decode kT_wallCount 4 = .ok (.invokevirtual 69, 3) := by decide +kernel
theorem dT_wallCount_7 : decode kT_wallCount 7 = .ok (.ireturn, 1) := by decide +kernel
theorem dT_nodeCount_0 : decode kT_nodeCount 0 = .ok (.aload_n 0, 1) := by decide +kernel
theorem dT_nodeCount_1 : decode kT_nodeCount 1 = .ok (.getfield 21, 3) := by decide +kernel
theorem dT_nodeCount_4 : decode kT_nodeCount 4 = .ok (.invokevirtual 98, 3) := by decide +kernel
theorem dT_nodeCount_7 : decode kT_nodeCount 7 = .ok (.ireturn, 1) := by decide +kernel
theorem dT_height_0 : decode kT_height 0 = .ok (.aload_n 0, 1) := by decide +kernel
theorem dT_height_1 : decode kT_height 1 = .ok (.getfield 110, 3) := by decide +kernel
theorem dT_height_4 : decode kT_height 4 = .ok (.ireturn, 1) := by decide +kernel
